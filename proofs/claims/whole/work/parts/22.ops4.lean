/-- one write at an address of the layout: what it leaves as it was -/
theorem RXo.put1 {E : Ev} {A : Nat → Prop} {h : Hp} {y : Nat → Nat → Nat} {s : MS} {n cp : Nat → Nat} (R : RXo E A h y s n cp) {k0 j0 : Nat} {e e' : va_E} (hl : lyv n cp k0 j0) (hb : xh_at h (y k0 j0) e) (hk : (∃ ci fs, 1 ≤ ci ∧ e = .inr (ci, fs)) → ∃ ci fs, 1 ≤ ci ∧ e' = .inr (ci, fs)) (hp : ∀ fs, e ≠ .inr (6, fs)) :
    xg A h (xh_set h (y k0 j0) e') ∧ RXa A (xh_set h (y k0 j0) e') y n cp ∧ (k0 ≠ 0 → RXf E (xh_set h (y k0 j0) e') y s n) ∧ ((k0 ≠ 0 ∨ j0 < 12) → k0 ≠ 15 → k0 ≠ 7 → k0 ≠ 8 → RXl E (xh_set h (y k0 j0) e') y s n cp) ∧ (k0 ≠ 1 → k0 ≠ 2 → RXm E (xh_set h (y k0 j0) e') y s n) ∧ (k0 ≠ 3 → k0 ≠ 9 → RXc (xh_set h (y k0 j0) e') y s n) ∧ (k0 ≠ 5 → RXt (xh_set h (y k0 j0) e') y s n) ∧ (k0 ≠ 10 → k0 ≠ 11 → RXs E (xh_set h (y k0 j0) e') y s n) ∧ RXp (xh_set h (y k0 j0) e') y s n := by
  obtain ⟨Ra, Rn, Rf, Rl, Rm, Rc, Rt, Rs, Rp⟩ := id R
  have g1 : xg (fun a => a = y k0 j0) h (xh_set h (y k0 j0) e') := xg.set rfl
  have ho := xo_set (e' := e') hb hk
  have hP : ∀ a fs, xh_at h a (.inr (6, fs)) → ¬ a = y k0 j0 := by
    intro a fs ha q
    subst q
    exact hp fs (hb.2.symm.trans ha.2)
  exact ⟨xg.set (Ra.2.1 k0 j0 hl), Ra.g g1, fun hk => Rf.g g1 (fun k hk' => Ra.ne (ly0 hk') hl (by omega)), fun q1 q2 q3 q4 => Rl.g g1 ho (fun k h1 h2 => Ra.ne (ly0 h2) hl (by omega)) (fun k h1 h2 h3 => Ra.ne (ly15 h1 h2 h3) hl (by omega)) (fun t ht => Ra.ne (ly7 ht) hl (by omega)) (fun t ht hc => Ra.ne (ly8 ht hc) hl (by omega)), fun q1 q2 => Rm.g g1 (fun k hk => Ra.ne (ly1 hk) hl (by omega)) (fun k hk => Ra.ne (ly2 hk) hl (by omega)), fun q1 q2 => Rc.g g1 (fun k hk => Ra.ne (ly3 hk) hl (by omega)) (fun k hk => Ra.ne (ly9 hk) hl (by omega)) hP, fun q1 => Rt.g g1 (fun k hk => Ra.ne (ly5 hk) hl (by omega)) hP, fun q1 q2 => Rs.g g1 (fun k hk => Ra.ne (ly10 hk) hl (by omega)) (fun k hk => Ra.ne (ly11 hk) hl (by omega)), Rp.g g1 hP⟩
theorem sI_of {E : Ev} {h : Hp} {t a m j : Nat} {f : Nat → Int32} {i x : Int32} {P : Hp → Prop} (hx : xh_at h a (.inl (E.1 t, m, .inl f))) (hi : i = nI j) (hj : j < m) (hm : m < 2 ^ 31) (p : P (xh_set h a (.inl (E.1 t, m, .inl (upd f j x))))) : sI E h t a i x P := by
  subst hi
  exact ⟨m, f, hx, vp_in_nI hj hm, _, rfl, by rw [nI_clamp (by omega)]; exact p⟩
theorem pV_of {h : Hp} {a ci k : Nat} {fs : List Value} {v : Value} {P : Hp → Prop} (hx : xh_at h a (.inr (ci, fs))) (hk : k < fs.length) (p : P (xh_set h a (.inr (ci, fs.set k v)))) : pV h a ci k v P := ⟨fs, hx, hk, _, rfl, p⟩
theorem SX_put_ok {WF : TWF} : SX_put RX WF := by
  intro E A h x s s' i kc ks r z R _ hi hm Q hQ
  obtain ⟨y, n, cp, rfl, R, hb⟩ := id R
  have hQ' : ∀ r0, some (r0, s) = some (r, s') → Q r0 h := by
    intro r0 e
    cases e
    exact hQ h ⟨y, n, cp, rfl, R, hb.next⟩ xg.rf
  obtain ⟨Ra, Rn, Rf, Rl, Rm, Rc, Rt, Rs, Rp⟩ := id R
  obtain ⟨f0, f1, f2, f3, ⟨fw, f4, f4'⟩, ⟨sz, so, nu, f5⟩, ⟨g6, f6⟩, ⟨x7, y7, z7, f7⟩, ⟨x8, y8, z8, f8⟩, ⟨g9, f9⟩, ⟨g10, f10⟩, ⟨g11, f11, f11'⟩⟩ := id Rf
  have hn := Rn.2.2.2.2.2.2.2.2.1
  unfold M_put at hm
  rw [hn.1] at hm
  refine gI_of f0 rfl ⟨fun q => ?_, fun q => ?_⟩
  · have e : n 8 = 64 := by
      rcases Nat.lt_or_ge (n 8) 64 with z | z
      · exact absurd q (nI_ge (b := 64) z (by omega))
      · omega
    rw [if_pos (by rw [e]; rfl)] at hm
    exact hQ' _ hm
  · have hlt : n 8 < 64 := by
      rcases Nat.lt_or_ge (n 8) 64 with z | z
      · exact z
      · exact absurd (show (64 : Int32) ≤ nI (n 8) from nI_le (a := 64) z (by omega)) q
    rw [if_neg (fun e => by have := (nI_eq (a := n 8) (b := 64) (by omega) (by omega)).mp e; omega)] at hm
    obtain ⟨⟨x1, s2⟩, o1, hm⟩ := Option.bind_eq_some_iff.mp hm
    dsimp only [lt1] at hm
    refine s_within o1 (fun e => ?_)
    subst e
    refine ⟨fun q => ?_, fun q => ?_⟩
    · rw [if_pos q] at hm; exact hQ' _ hm
    rw [if_neg q, hn.1, if_neg (nI_in (c := n 8) (N := 64) (by omega) (by omega)), nI_clamp (by omega)] at hm
    obtain ⟨gA, Ra1, -, Rl1, Rm1, Rc1, Rt1, Rs1, Rp1⟩ := R.put1 (ly0 (j := 9) (by omega)) f11 (e' := .inl (E.1 0, 64, .inl (upd g11 (n 8) z))) (fun q => by obtain ⟨_, _, _, q⟩ := q; cases q) (fun fs q => by cases q)
    have k9 : ∀ {j e}, j ≤ 18 → j ≠ 9 → xh_at h (y 0 j) e → xh_at (xh_set h (y 0 9) (.inl (E.1 0, 64, .inl (upd g11 (n 8) z)))) (y 0 j) e := fun hj hne hx => hx.ne (Ra.ne (ly0 hj) (ly0 (by omega)) (by omega))
    have f0' := k9 (by omega) (by omega) f0
    refine gR_of f0 rfl (gI_of f0 rfl (nN_of (sI_of f11 rfl hlt (by omega) (gI_of f0' rfl (pV_of f0' (by show 3 < 4; decide) ?_)))))
    have f0'' := f0'.set (e' := .inr (12, [.ref (y 0 1), .ref (y 0 2), .ref (y 0 9), .int (nI (n 8) + 1)]))
    refine gI_of f0'' rfl ?_
    obtain ⟨rfl, rfl⟩ : (nI (n 8) + 1 = r) ∧ (mI (mA s 19 (n 8) z) 20 (nI (n 8) + 1) = s') := by
      rw [show (mA s 19 (n 8) z).1 20 = nI (n 8) from hn.1] at hm
      cases hm
      exact ⟨rfl, rfl⟩
    have R1 : RXo E A (xh_set h (y 0 9) (.inl (E.1 0, 64, .inl (upd g11 (n 8) z)))) y (mA s 19 (n 8) z) n cp := ⟨Ra1, Rn, ⟨f0', k9 (by omega) (by omega) f1, k9 (by omega) (by omega) f2, k9 (by omega) (by omega) f3, ⟨fw, k9 (by omega) (by omega) f4, f4'⟩, ⟨sz, so, nu, k9 (by omega) (by omega) f5⟩, ⟨g6, k9 (by omega) (by omega) f6⟩, ⟨x7, y7, z7, k9 (by omega) (by omega) f7⟩, ⟨x8, y8, z8, k9 (by omega) (by omega) f8⟩, ⟨g9, k9 (by omega) (by omega) f9⟩, ⟨g10, k9 (by omega) (by omega) f10⟩, ⟨_, f11.set, fun k hk => by rw [show (mA s 19 (n 8) z).2.2.1 19 k = s.2.2.1 19 k by simp [mA, va_up, upd]; omega, pk_un (by omega)]; exact f11' k hk⟩⟩, Rl1 (by omega) (by omega) (by omega) (by omega), Rm1 (by omega) (by omega), Rc1 (by omega) (by omega), Rt1 (by omega), Rs1 (by omega) (by omega), Rp1⟩
    obtain ⟨gB, Ra2, -, Rl2, Rm2, Rc2, Rt2, Rs2, Rp2⟩ := R1.put1 (ly0 (j := 0) (by omega)) f0' (e' := .inr (12, [.ref (y 0 1), .ref (y 0 2), .ref (y 0 9), .int (nI (n 8) + 1)])) (fun _ => ⟨12, _, by omega, rfl⟩) (fun fs q => by injection q with q; injection q with q; omega)
    obtain ⟨-, F1, F2, F3, ⟨fw, F4, F4'⟩, ⟨sz, so, nu, F5⟩, ⟨g6, F6⟩, ⟨x7, y7, z7, F7⟩, ⟨x8, y8, z8, F8⟩, ⟨g9, F9⟩, ⟨g10, F10⟩, ⟨G11, F11, F11'⟩⟩ := R1.2.2.1
    have k0 : ∀ {j e}, j ≤ 18 → j ≠ 0 → xh_at (xh_set h (y 0 9) (.inl (E.1 0, 64, .inl (upd g11 (n 8) z)))) (y 0 j) e → xh_at (xh_set (xh_set h (y 0 9) (.inl (E.1 0, 64, .inl (upd g11 (n 8) z)))) (y 0 0) (.inr (12, [.ref (y 0 1), .ref (y 0 2), .ref (y 0 9), .int (nI (n 8) + 1)]))) (y 0 j) e := fun hj hne hx => hx.ne (Ra.ne (ly0 hj) (ly0 (by omega)) (by omega))
    obtain ⟨r0, r1, r2, r3, r4, r5, r6, r7, -, r9, r10⟩ := Rn
    refine hQ _ ⟨y, va_up n 8 (n 8 + 1), cp, rfl, ⟨Ra2, ⟨r0, r1, r2, r3, r4, r5, r6, r7, ⟨nI_1 (n 8), hlt⟩, r9, r10⟩, ⟨by rw [show nI (va_up n 8 (n 8 + 1) 8) = nI (n 8) + 1 from (nI_1 (n 8)).symm]; exact f0'', k0 (by omega) (by omega) F1, k0 (by omega) (by omega) F2, k0 (by omega) (by omega) F3, ⟨fw, k0 (by omega) (by omega) F4, F4'⟩, ⟨sz, so, nu, k0 (by omega) (by omega) F5⟩, ⟨g6, k0 (by omega) (by omega) F6⟩, ⟨x7, y7, z7, k0 (by omega) (by omega) F7⟩, ⟨x8, y8, z8, k0 (by omega) (by omega) F8⟩, ⟨g9, k0 (by omega) (by omega) F9⟩, ⟨g10, k0 (by omega) (by omega) F10⟩, ⟨_, k0 (by omega) (by omega) f11.set, fun k hk => ?_⟩⟩, Rl2 (by omega) (by omega) (by omega) (by omega), Rm2 (by omega) (by omega), Rc2 (by omega) (by omega), Rt2 (by omega), Rs2 (by omega) (by omega), Rp2⟩, hb.next⟩ (gA.tr gB)
    have hk' : k < n 8 + 1 := hk
    by_cases e : k = n 8
    · subst e
      show upd g11 (n 8) z (n 8) = va_up s.2.2.1 19 (upd (s.2.2.1 19) (n 8) z) 19 (n 8)
      rw [va_up_self, pk_us, pk_us]
    · show upd g11 (n 8) z k = va_up s.2.2.1 19 (upd (s.2.2.1 19) (n 8) z) 19 k
      rw [va_up_self, pk_un e, pk_un e]
      exact f11' k (by omega)
theorem SX_alter_ok {WF : TWF} (hsz : ∀ i s, WF i s → ∀ j, j < 60 → s.2.2.1 11 j ≤ 64) : SX_alter RX WF := by
  intro E A h x s s' i kc ks r z w v R hW hi hm Q hQ
  obtain ⟨y, n, cp, rfl, R, hb⟩ := id R
  have hQ' : ∀ r0, some (r0, s) = some (r, s') → Q r0 h := by
    intro r0 e
    cases e
    exact hQ h ⟨y, n, cp, rfl, R, hb.next⟩ xg.rf
  obtain ⟨Ra, Rn, Rf, Rl, Rm, Rc, Rt, Rs, Rp⟩ := id R
  obtain ⟨f0, f1, f2, f3, f4, -⟩ := id Rf
  have hn := Rn.2.2.1.2
  unfold M_alter at hm
  refine gR_of f0 rfl (nN_of (gR_of f1 rfl (nN_of (isO_of f3 (s_wget R (fun q => ?_) (fun j hj q => ?_))))))
  · refine ⟨fun _ => ?_, fun a q => by cases q⟩
    rw [M_isMessage_no Rn.2.2.1.1 q] at hm
    exact hQ' _ hm
  · subst q
    refine ⟨fun q => (by cases q), fun a q => ?_⟩
    cases q
    rw [M_isMessage_yes Rn.2.2.1.1 (by omega) hj] at hm
    simp only [Option.bind_some, lt1, if_neg (show ¬ (1 : Int32) = 0 by decide), if_neg (nI_in (c := j) (N := 60) (by omega) (by omega))] at hm
    simp only [nI_clamp (show j < 2 ^ 31 by omega)] at hm
    obtain ⟨a, b, c, d, sz, f, m1, m2, m3⟩ := Rm j (by omega)
    obtain ⟨v1, v2, v3, v4, v5, v6⟩ := m3 hj
    refine isO_of m1 ⟨fun q => ?_, fun q => gI_of m1 rfl ⟨fun q2 => ?_, fun q2 => ?_⟩⟩
    · rw [if_pos q] at hm
      exact ⟨fun _ => hQ' _ hm, fun q => absurd rfl q⟩
    · rw [v5] at q2
      rw [if_neg q, if_pos q2] at hm
      exact ⟨fun _ => hQ' _ hm, fun q => absurd rfl q⟩
    · refine ⟨fun q => absurd q (by decide), fun _ => ?_⟩
      have h64 : sz ≤ 64 := by rw [v5]; exact hsz i s hW j (by omega)
      have q3 : w < sz := Int32.not_le.mp q2
      obtain ⟨k, hk, rfl⟩ : ∃ k : Nat, k < 64 ∧ w = nI k := by
        obtain ⟨k, hk, e⟩ := nI_of2 (M := 64) (n := 64) (by decide) q (Int32.le_trans (Int32.le_of_lt q3) h64)
        refine ⟨k, ?_, e⟩
        rcases Nat.lt_or_ge k 64 with z | z
        · exact z
        · have : k = 64 := by omega
          subst this
          rw [e] at q3
          exact absurd (Int32.lt_of_lt_of_le q3 h64) (by decide)
      rw [if_neg q, if_neg (by rw [← v5]; exact q2)] at hm
      obtain ⟨⟨x1, s2⟩, o1, hm⟩ := Option.bind_eq_some_iff.mp hm
      refine s_within o1 (fun e => ?_)
      subst e
      refine ⟨fun q => ?_, fun q => ?_⟩
      · rw [if_pos q] at hm; exact hQ' _ hm
      rw [if_neg q, show (64 : Int32) * nI j + nI k = nI (64 * j + k) by rw [show (64 : Int32) = nI 64 from rfl, pk_mul, nI_add], if_neg (nI_in (by omega) (by omega)), nI_clamp (by omega)] at hm
      cases hm
      obtain ⟨gA, Ra1, Rf1, Rl1, -, Rc1, Rt1, Rs1, Rp1⟩ := R.put1 (ly2 (j := j) (by omega)) m2 (e' := .inl (E.1 0, 64, .inl (upd f k v))) (fun q => by obtain ⟨_, _, _, q⟩ := q; cases q) (fun fs q => by cases q)
      refine gR_of m1 rfl (nN_of (sI_of m2 rfl hk (by omega) ?_))
      refine hQ _ ⟨y, n, cp, rfl, ⟨Ra1, Rn, Rf1 (by omega), Rl1 (by omega) (by omega) (by omega) (by omega), fun j' hj' => ?_, Rc1 (by omega) (by omega), Rt1 (by omega), Rs1 (by omega) (by omega), Rp1⟩, hb.next⟩ gA
      by_cases e : j' = j
      · subst e
        refine ⟨a, b, c, d, sz, _, m1.ne (Ra.ne (ly1 (by omega)) (ly2 (by omega)) (by omega)), m2.set, fun _ => ⟨v1, v2, v3, v4, v5, fun i' hi' => ?_⟩⟩
        show upd f k v i' = va_up s.2.2.1 12 (upd (s.2.2.1 12) (64 * j' + k) v) 12 (64 * j' + i')
        rw [va_up_self]
        by_cases e2 : i' = k
        · subst e2; rw [pk_us, pk_us]
        · rw [pk_un e2, pk_un (by omega)]; exact v6 i' hi'
      · obtain ⟨a, b, c, d, sz', f', m1', m2', m3'⟩ := Rm j' hj'
        refine ⟨a, b, c, d, sz', f', m1'.ne (Ra.ne (ly1 hj') (ly2 (by omega)) (by omega)), m2'.ne (Ra.ne (ly2 hj') (ly2 (by omega)) (by omega)), fun hj2 => ?_⟩
        obtain ⟨w1, w2, w3, w4, w5, w6⟩ := m3' hj2
        refine ⟨w1, w2, w3, w4, w5, fun i' hi' => ?_⟩
        have h64' : sz' ≤ 64 := by rw [w5]; exact hsz i s hW j' (by omega)
        have : i' < 64 := by
          have h2 : sz'.toNatClampNeg ≤ 64 := by
            rw [Int32.le_iff_toInt_le] at h64'
            have : (64 : Int32).toInt = 64 := by decide
            show sz'.toInt.toNat ≤ 64
            omega
          omega
        show f' i' = va_up s.2.2.1 12 (upd (s.2.2.1 12) (64 * j + k) v) 12 (64 * j' + i')
        rw [va_up_self, pk_un (by omega)]
        exact w6 i' hi'
