/-! a card keeps what it was asked -/
theorem cpS_up {cp : Nat → Nat} {j0 z : Nat} (h1 : 12 ≤ j0) (h2 : j0 ≤ 18) : cpS (va_up cp j0 z) + cp j0 = cpS cp + z := by
  unfold cpS
  match j0, h1, h2 with
  | 12, _, _ => show z + cp 13 + cp 14 + cp 15 + cp 16 + cp 17 + cp 18 + cp 20 + cp 21 + cp 22 + cp 23 + cp 24 + cp 25 + cp 26 + cp 27 + cp 12 = _; omega
  | 13, _, _ => show cp 12 + z + cp 14 + cp 15 + cp 16 + cp 17 + cp 18 + cp 20 + cp 21 + cp 22 + cp 23 + cp 24 + cp 25 + cp 26 + cp 27 + cp 13 = _; omega
  | 14, _, _ => show cp 12 + cp 13 + z + cp 15 + cp 16 + cp 17 + cp 18 + cp 20 + cp 21 + cp 22 + cp 23 + cp 24 + cp 25 + cp 26 + cp 27 + cp 14 = _; omega
  | 15, _, _ => show cp 12 + cp 13 + cp 14 + z + cp 16 + cp 17 + cp 18 + cp 20 + cp 21 + cp 22 + cp 23 + cp 24 + cp 25 + cp 26 + cp 27 + cp 15 = _; omega
  | 16, _, _ => show cp 12 + cp 13 + cp 14 + cp 15 + z + cp 17 + cp 18 + cp 20 + cp 21 + cp 22 + cp 23 + cp 24 + cp 25 + cp 26 + cp 27 + cp 16 = _; omega
  | 17, _, _ => show cp 12 + cp 13 + cp 14 + cp 15 + cp 16 + z + cp 18 + cp 20 + cp 21 + cp 22 + cp 23 + cp 24 + cp 25 + cp 26 + cp 27 + cp 17 = _; omega
  | 18, _, _ => show cp 12 + cp 13 + cp 14 + cp 15 + cp 16 + cp 17 + z + cp 20 + cp 21 + cp 22 + cp 23 + cp 24 + cp 25 + cp 26 + cp 27 + cp 18 = _; omega
  | k + 19, _, h => omega
section KEEP
variable {E : Ev} {A : Nat → Prop} {h : Hp} {y : Nat → Nat → Nat} {s s' : MS} {n cp : Nat → Nat} {kd fs fr : Int32} {cf gf : Nat → Int64} {i u c : Nat} {r : Int32}
theorem cp10 (R : RXo E A h y s n cp) {j0 : Nat} (h12 : 12 ≤ j0) (h18 : j0 ≤ 18) : cp j0 = 0 ∨ 10 ≤ cp j0 := by
  obtain ⟨m, el, md, a1, a2, a3⟩ := R.lst h18 h12
  rcases a3 with ⟨z, _⟩ | ⟨z, _⟩
  · exact Or.inl z
  · exact Or.inr z
theorem grow_F {j0 m : Nat} (h12 : 12 ≤ j0) (h18 : j0 ≤ 18) (hc : ∀ j, cp j ≤ 8192) (hm : m ≤ 2048) (h10 : cp j0 = 0 ∨ 10 ≤ cp j0) : (if m = cp j0 then al_cap (cp j0) else 0) + Fs n (va_up cp j0 (alC m (cp j0))) ≤ Fs n cp ∧ (∀ j, va_up cp j0 (alC m (cp j0)) j ≤ 8192) := by
  have a := cpS_up (cp := cp) (z := alC m (cp j0)) h12 h18
  have hcS := cpS_le hc
  have h8 : ∀ j, va_up cp j0 (alC m (cp j0)) j ≤ 8192 := by
    intro j
    by_cases e : j = j0
    · subst e
      rw [va_up_self]
      unfold alC al_cap
      have := hc j
      split
      · split <;> omega
      · omega
    · rw [va_up_ne _ _ e]; exact hc j
  have hcS' := cpS_le h8
  refine ⟨?_, h8⟩
  unfold Fs
  unfold alC al_cap at *
  by_cases z : m = cp j0
  · simp only [if_pos z] at *
    by_cases z0 : cp j0 = 0
    · simp only [if_pos z0] at *
      omega
    · simp only [if_neg z0] at *
      omega
  · simp only [if_neg z] at *
    omega
theorem s_keep {ans t5 : Int32} {kc ks : Nat} {Q : Hp → Prop} (X : CX E A h y s n cp kd fs fr cf gf) (hc : c < n 0) (h30 : ¬ s.2.2.1 30 c = 2) (hn6 : n 6 < 512) (ht : (cf 5).toInt32 = t5) (k1 : 2 ≤ kc) (k2 : 8 + (if n 6 = cp 15 then al_cap (cp 15) else 0) ≤ ks)
    (hQ : ∀ h' y' p, CX E A h' y' (ansS (mL (mL (mL s 32 c (cf 3)) 33 c (cf 4)) 34 c t5.toInt64) n (nI c) (s.2.2.1 27 c) (cf 3) (cf 4) t5 (s.2.2.1 31 c) ans) (va_up n 6 (n 6 + 1)) (va_up cp 15 (alC (n 6) (cp 15))) kd fs fr cf gf → PAY h' p (nI c) (s.2.2.1 27 c) (cf 3) (cf 4) t5 (s.2.2.1 31 c) ans 0 → y' 4 c = p → (∀ k j, k ≠ 4 → k ≠ 13 → k ≠ 15 → y' k j = y k j) → xg A h h' → Q h') : m_X1_keepAsked E (y 3 c) (some (y 0 5)) ans h kc ks Q := by
  have R := X.1
  have x := X.card hc
  have hcp := R.2.1.2.2.2.2.2.2.2.2.2.2
  refine ⟨kc - 1, ks - 8, by omega, by omega, fun p h1 hp e1 => ?_⟩
  have pp : xh_at h1 p (.inr (6, [.int 0, .int 0, .long 0, .long 0, .int 0, .int 0, .int 0, .long 0])) := by rw [e1]; exact xh_at.newq
  have g1 : xg (fun a => a = y 3 c) h h1 := by rw [e1]; exact xg.new hp
  have g0 : xg (fun _ => False) h h1 := by rw [e1]; exact xg.new hp
  have x1 := g0.at x (fun z => z)
  have npc : y 3 c ≠ p := fun z => hp (by rw [← z]; exact x.1)
  have c5 := g0.at X.2.1 (fun z => z)
  have c7 := g0.at X.2.2.1 (fun z => z)
  have w1 := g0.at X.world (fun z => z)
  have n5 : y 0 5 ≠ p := X.2.1.fresh hp
  have n7 : y 0 7 ≠ p := X.2.2.1.fresh hp
  have n1 : y 0 1 ≠ p := X.world.fresh hp
  refine pV_of x1 (by show 11 < 12; decide) ?_
  have x2 := x1.set (e' := .inr (2, cardL y c p (s.2.2.1 22 c) (s.2.2.2 23 c) (s.2.2.1 24 c) (s.2.2.1 27 c) (s.2.2.1 28 c) (s.2.2.1 29 c) (s.2.2.1 30 c) (s.2.2.1 35 c) (s.2.2.1 31 c)))
  have g2 : xg (fun a => a = y 3 c) h (xh_set h1 (y 3 c) (.inr (2, cardL y c p (s.2.2.1 22 c) (s.2.2.2 23 c) (s.2.2.1 24 c) (s.2.2.1 27 c) (s.2.2.1 28 c) (s.2.2.1 29 c) (s.2.2.1 30 c) (s.2.2.1 35 c) (s.2.2.1 31 c)))) := g1.tr (xg.set rfl)
  have pp2 := pp.ne (e' := .inr (2, cardL y c p (s.2.2.1 22 c) (s.2.2.2 23 c) (s.2.2.1 24 c) (s.2.2.1 27 c) (s.2.2.1 28 c) (s.2.2.1 29 c) (s.2.2.1 30 c) (s.2.2.1 35 c) (s.2.2.1 31 c))) (fun z => npc z.symm)
  have c52 := c5.ne (e' := .inr (2, cardL y c p (s.2.2.1 22 c) (s.2.2.2 23 c) (s.2.2.1 24 c) (s.2.2.1 27 c) (s.2.2.1 28 c) (s.2.2.1 29 c) (s.2.2.1 30 c) (s.2.2.1 35 c) (s.2.2.1 31 c))) (R.1.ne (lyc (by omega)) (ly3 hc) (by omega))
  have c72 := c7.ne (e' := .inr (2, cardL y c p (s.2.2.1 22 c) (s.2.2.2 23 c) (s.2.2.1 24 c) (s.2.2.1 27 c) (s.2.2.1 28 c) (s.2.2.1 29 c) (s.2.2.1 30 c) (s.2.2.1 35 c) (s.2.2.1 31 c))) (R.1.ne (lyc (by omega)) (ly3 hc) (by omega))
  have w2 := w1.ne (e' := .inr (2, cardL y c p (s.2.2.1 22 c) (s.2.2.2 23 c) (s.2.2.1 24 c) (s.2.2.1 27 c) (s.2.2.1 28 c) (s.2.2.1 29 c) (s.2.2.1 30 c) (s.2.2.1 35 c) (s.2.2.1 31 c))) (R.1.ne (lyc (by omega)) (ly3 hc) (by omega))
  refine gR_of x2 rfl (gI_of x2 rfl (nN_of (pV_of pp2 (by show 0 < 8; decide) ?_)))
  refine gR_of (x2.ne npc) rfl (gI_of (x2.ne npc) rfl (nN_of (pV_of pp2.set (by show 1 < 8; decide) ?_)))
  refine gR_of ((x2.ne npc).ne npc) rfl (nN_of (gR_of ((c52.ne n5).ne n5) rfl (nN_of (aL_of ((c72.ne n7).ne n7) (j := 3) rfl (by omega) (by omega) rfl (nN_of (pV_of pp2.set.set (by show 2 < 8; decide) ?_))))))
  refine gR_of (((x2.ne npc).ne npc).ne npc) rfl (gR_of (((c52.ne n5).ne n5).ne n5) rfl (nN_of (aL_of (((c72.ne n7).ne n7).ne n7) (j := 4) rfl (by omega) (by omega) rfl (nN_of (pV_of pp2.set.set.set (by show 3 < 8; decide) ?_)))))
  refine gR_of ((((x2.ne npc).ne npc).ne npc).ne npc) rfl (isO_of ((((c52.ne n5).ne n5).ne n5).ne n5) (gR_of ((((c52.ne n5).ne n5).ne n5).ne n5) rfl (nN_of (aL_of ((((c72.ne n7).ne n7).ne n7).ne n7) (j := 5) rfl (by omega) (by omega) rfl (nN_of (pV_of pp2.set.set.set.set (by show 4 < 8; decide) ?_))))))
  refine gR_of (((((x2.ne npc).ne npc).ne npc).ne npc).ne npc) rfl (gI_of (((((x2.ne npc).ne npc).ne npc).ne npc).ne npc) rfl (nN_of (pV_of pp2.set.set.set.set.set (by show 5 < 8; decide) ?_)))
  refine gR_of ((((((x2.ne npc).ne npc).ne npc).ne npc).ne npc).ne npc) rfl (nN_of (pV_of pp2.set.set.set.set.set.set (by show 6 < 8; decide) ?_))
  refine gR_of (((((((x2.ne npc).ne npc).ne npc).ne npc).ne npc).ne npc).ne npc) rfl (nN_of (gR_of (((((((w2.ne n1).ne n1).ne n1).ne n1).ne n1).ne n1).ne n1) rfl (gR_of (((((((x2.ne npc).ne npc).ne npc).ne npc).ne npc).ne npc).ne npc) rfl (nN_of ?_))))
  rw [ht]
  have g9 := ((((((g2.setn (e := .inr (6, [.int (nI c), .int 0, .long 0, .long 0, .int 0, .int 0, .int 0, .long 0])) hp).setn (e := .inr (6, [.int (nI c), .int (s.2.2.1 27 c), .long 0, .long 0, .int 0, .int 0, .int 0, .long 0])) hp).setn (e := .inr (6, [.int (nI c), .int (s.2.2.1 27 c), .long (cf 3), .long 0, .int 0, .int 0, .int 0, .long 0])) hp).setn (e := .inr (6, [.int (nI c), .int (s.2.2.1 27 c), .long (cf 3), .long (cf 4), .int 0, .int 0, .int 0, .long 0])) hp).setn (e := .inr (6, [.int (nI c), .int (s.2.2.1 27 c), .long (cf 3), .long (cf 4), .int t5, .int 0, .int 0, .long 0])) hp).setn (e := .inr (6, [.int (nI c), .int (s.2.2.1 27 c), .long (cf 3), .long (cf 4), .int t5, .int (s.2.2.1 31 c), .int 0, .long 0])) hp).setn (e := .inr (6, [.int (nI c), .int (s.2.2.1 27 c), .long (cf 3), .long (cf 4), .int t5, .int (s.2.2.1 31 c), .int ans, .long 0])) hp
  have x9 := ((((((x2.ne (e' := .inr (6, [.int (nI c), .int 0, .long 0, .long 0, .int 0, .int 0, .int 0, .long 0])) npc).ne (e' := .inr (6, [.int (nI c), .int (s.2.2.1 27 c), .long 0, .long 0, .int 0, .int 0, .int 0, .long 0])) npc).ne (e' := .inr (6, [.int (nI c), .int (s.2.2.1 27 c), .long (cf 3), .long 0, .int 0, .int 0, .int 0, .long 0])) npc).ne (e' := .inr (6, [.int (nI c), .int (s.2.2.1 27 c), .long (cf 3), .long (cf 4), .int 0, .int 0, .int 0, .long 0])) npc).ne (e' := .inr (6, [.int (nI c), .int (s.2.2.1 27 c), .long (cf 3), .long (cf 4), .int t5, .int 0, .int 0, .long 0])) npc).ne (e' := .inr (6, [.int (nI c), .int (s.2.2.1 27 c), .long (cf 3), .long (cf 4), .int t5, .int (s.2.2.1 31 c), .int 0, .long 0])) npc).ne (e' := .inr (6, [.int (nI c), .int (s.2.2.1 27 c), .long (cf 3), .long (cf 4), .int t5, .int (s.2.2.1 31 c), .int ans, .long 0])) npc
  have p9 := ((((((pp2.set (e' := .inr (6, [.int (nI c), .int 0, .long 0, .long 0, .int 0, .int 0, .int 0, .long 0]))).set (e' := .inr (6, [.int (nI c), .int (s.2.2.1 27 c), .long 0, .long 0, .int 0, .int 0, .int 0, .long 0]))).set (e' := .inr (6, [.int (nI c), .int (s.2.2.1 27 c), .long (cf 3), .long 0, .int 0, .int 0, .int 0, .long 0]))).set (e' := .inr (6, [.int (nI c), .int (s.2.2.1 27 c), .long (cf 3), .long (cf 4), .int 0, .int 0, .int 0, .long 0]))).set (e' := .inr (6, [.int (nI c), .int (s.2.2.1 27 c), .long (cf 3), .long (cf 4), .int t5, .int 0, .int 0, .long 0]))).set (e' := .inr (6, [.int (nI c), .int (s.2.2.1 27 c), .long (cf 3), .long (cf 4), .int t5, .int (s.2.2.1 31 c), .int 0, .long 0]))).set (e' := .inr (6, [.int (nI c), .int (s.2.2.1 27 c), .long (cf 3), .long (cf 4), .int t5, .int (s.2.2.1 31 c), .int ans, .long 0]))
  obtain ⟨X9, gA9⟩ := X.cd (s' := mL (mL (mL s 32 c (cf 3)) 33 c (cf 4)) 34 c t5.toInt64) (p := p) (x22 := s.2.2.1 22 c) (x23 := s.2.2.2 23 c) (x24 := s.2.2.1 24 c) (x27 := s.2.2.1 27 c) (x28 := s.2.2.1 28 c) (x29 := s.2.2.1 29 c) (x30 := s.2.2.1 30 c) (x35 := s.2.2.1 35 c) (x31 := s.2.2.1 31 c) (x32 := cf 3) (x33 := cf 4) (x34 := t5.toInt64) (x25 := s.2.2.2 25 c) (x26 := s.2.2.1 26 c) hc g9 (Or.inr hp) (by simp [cdv, mL, va_up, vp_updL]) x9 ⟨_, _, _, _, _, _, _, _, p9, fun z => absurd z h30⟩ rfl rfl (fun j hj => by simp [cdv, mL, va_up, vp_updL, hj]) rfl rfl
  have l9 := X9.1.2.2.2.1.2.2.2.1
  refine l9.isO (cK_of 1 (if n 6 = cp 15 then al_cap (cp 15) else 0) (by omega) (by omega) (s_add l9 ⟨6, _, by omega, p9⟩ (by have := hcp 15; omega) (fun z => ⟨Nat.le_refl _, by rw [if_pos z]; exact Nat.le_refl _⟩) (fun h' d' c' al ga hd => ?_)))
  have hA : A p := R.1.1 p hp
  have hne : ∀ t', t' < n 1 → ¬ s.2.2.1 41 t' = 0 → p ≠ y 6 t' := by
    intro t' ht' _ e
    obtain ⟨wd, t1, t2, cc, k, am, un, tt, w, a, sl, e1', e2⟩ := R.2.2.2.2.2.2.1 t' ht'
    exact hp (by rw [e]; exact e1'.1)
  obtain ⟨R', gB⟩ := X9.1.ans hn6 p9 hA hne ga al hd
  have ec : c' = alC (n 6) (cp 15) := by
    unfold alC
    rcases hd with ⟨w1, w2, w3⟩ | ⟨w1, w2, w3⟩
    · rw [if_neg (by omega)]; exact w3
    · rw [if_pos w1]; exact w3
  rw [ec] at R'
  have Xn := X9.ys R' (alS.ys (n := n) (j0 := 15) (by omega) (by omega) ga) ⟨by omega, by omega, by omega⟩ (fun _ => rfl)
  refine hQ h' _ p Xn (ga.at p9 (alS.pay X9.1 (by omega) (by omega) _ _ p9)) ?_ (fun k j a1 a2 a3 => ?_) (gA9.tr gB)
  · show va_up (y 4) c p c = p
    exact va_up_self _ _ _
  · show va_up (va_up (va_up y 4 _) 13 _) 15 _ k j = _
    rw [va_up_ne _ _ a3, va_up_ne _ _ a2, va_up_ne _ _ a1]
end KEEP
