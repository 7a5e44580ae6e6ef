theorem s_within {E : Ev} {h : Hp} {s s2 : MS} {v lo hi : Int64} {x1 : Int32} {kc ks : Nat} {Q : Int32 → Hp → Prop} (hm : M_isIn s v lo hi = some (x1, s2)) (hQ : s = s2 → Q x1 h) : m_X11_isWithin E v lo hi h kc ks Q := by
  unfold M_isIn at hm
  refine ⟨fun q => ?_, fun q => ⟨fun q2 => ?_, fun q2 => ?_⟩⟩
  · rw [if_pos q] at hm; cases hm; exact hQ rfl
  · rw [if_neg q, if_pos q2] at hm; cases hm; exact hQ rfl
  · rw [if_neg q, if_neg q2] at hm; cases hm; exact hQ rfl
theorem SX_power_ok {WF : TWF} : SX_power RX WF := by
  intro E A h x s s' i kc ks r z w R _ hi hm Q hQ
  obtain ⟨y, n, cp, rfl, R, hb⟩ := id R
  have hQ' : ∀ r0, some (r0, s) = some (r, s') → Q r0 h := by
    intro r0 e
    cases e
    exact hQ h ⟨y, n, cp, rfl, R, hb.next⟩ xg.rf
  obtain ⟨Ra, Rn, Rf, Rl, Rm, Rc, Rt, Rs, Rp⟩ := id R
  obtain ⟨f0, f1, -⟩ := id Rf
  have hn := Rn.1.2
  unfold M_power at hm
  rw [Rn.1.1] at hm
  refine gR_of f0 rfl (nN_of (isO_of f1 (s_isCard R (fun q => ?_) (fun j hj q => ?_))))
  · refine ⟨fun _ => ?_, fun q => absurd rfl q⟩
    by_cases z0 : z < 0
    · rw [if_pos z0] at hm; exact hQ' _ hm
    · rw [if_neg z0, if_pos (q.resolve_left z0)] at hm; exact hQ' _ hm
  · subst q
    refine ⟨fun q => absurd q (by decide), fun _ => ?_⟩
    rw [if_neg (nI_pos (by omega)), if_neg (nI_ge hj (by omega))] at hm
    obtain ⟨⟨x1, s2⟩, o1, hm⟩ := Option.bind_eq_some_iff.mp hm
    dsimp only [lt1] at hm
    refine s_within o1 (fun e => ?_)
    subst e
    refine ⟨fun q => ?_, fun q => ?_⟩
    · rw [if_pos q] at hm; exact hQ' _ hm
    rw [if_neg q, if_neg (nI_in (c := j) (N := 16) (by omega) (by omega)), nI_clamp (by omega)] at hm
    cases hm
    obtain ⟨c1, c2, c3⟩ := Rc j hj
    refine gR_of f0 rfl (nN_of (gR_of f1 rfl (nN_of (Rl.1.isO (s_get Rl.1 (by omega) hj (nN_of (isO_of c1 ⟨_, c1, by show 9 < 12; decide, _, rfl, ?_⟩)))))))
    have g : ∀ {S : Nat → Prop}, S (y 3 j) → xg S h _ := fun hS => xg.set (e := .inr (2, [.ref (y 0 1), .int (nI j), .int (s.2.2.1 22 j), .long (s.2.2.2 23 j), .int (s.2.2.1 24 j), .int (s.2.2.1 27 j), .int (s.2.2.1 28 j), .int (s.2.2.1 29 j), .int (s.2.2.1 30 j), .int w, .int (s.2.2.1 31 j), .ref (y 4 j)])) hS
    have g1 := g (S := fun a => a = y 3 j) rfl
    have ho := xo_set (e' := .inr (2, [.ref (y 0 1), .int (nI j), .int (s.2.2.1 22 j), .long (s.2.2.2 23 j), .int (s.2.2.1 24 j), .int (s.2.2.1 27 j), .int (s.2.2.1 28 j), .int (s.2.2.1 29 j), .int (s.2.2.1 30 j), .int w, .int (s.2.2.1 31 j), .ref (y 4 j)])) c1 (fun _ => ⟨2, _, by omega, rfl⟩)
    have hP := nP_obj c1 (by omega)
    refine hQ _ ⟨y, n, cp, rfl, ⟨Ra.g g1, Rn, Rf.g g1 (fun k hk => Ra.ne (ly0 hk) (ly3 hj) (by omega)), Rl.g g1 ho (fun k h1 h2 => Ra.ne (ly0 h2) (ly3 hj) (by omega)) (fun k h1 h2 h3 => Ra.ne (ly15 h1 h2 h3) (ly3 hj) (by omega)) (fun t ht => Ra.ne (ly7 ht) (ly3 hj) (by omega)) (fun t ht hc => Ra.ne (ly8 ht hc) (ly3 hj) (by omega)), Rm.g g1 (fun k hk => Ra.ne (ly1 hk) (ly3 hj) (by omega)) (fun k hk => Ra.ne (ly2 hk) (ly3 hj) (by omega)), ?_, Rt.g g1 (fun k hk => Ra.ne (ly5 hk) (ly3 hj) (by omega)) hP, Rs.g g1 (fun k hk => Ra.ne (ly10 hk) (ly3 hj) (by omega)) (fun k hk => Ra.ne (ly11 hk) (ly3 hj) (by omega)), Rp.g g1 hP⟩, hb.next⟩ (g (Ra.2.1 3 j (ly3 hj)))
    intro k hk
    obtain ⟨d1, ⟨c, q9, am, un, t, w9, a, sl, d2, d3⟩, d4⟩ := Rc k hk
    by_cases e : k = j
    · subst e
      refine ⟨?_, ⟨c, q9, am, un, t, w9, a, sl, g1.at d2 (hP _ _ d2), d3⟩, g1.at d4 (Ra.ne (ly9 hk) (ly3 hj) (by omega))⟩
      rw [show (mA s 35 k w).2.2.1 35 k = w by simp [mA, va_up, upd]]
      exact c1.set
    · refine ⟨?_, ⟨c, q9, am, un, t, w9, a, sl, g1.at d2 (hP _ _ d2), d3⟩, g1.at d4 (Ra.ne (ly9 hk) (ly3 hj) (by omega))⟩
      rw [show (mA s 35 j w).2.2.1 35 k = s.2.2.1 35 k by simp [mA, va_up, upd, e]]
      exact g1.at d1 (Ra.ne (ly3 hk) (ly3 hj) (by omega))
