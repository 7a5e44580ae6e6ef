/-! a card takes BEGIN -/
theorem tC1 : (1 : Int32).toNatClampNeg = 1 := by decide
theorem tC2 : (2 : Int32).toNatClampNeg = 2 := by decide
theorem tC3 : (3 : Int32).toNatClampNeg = 3 := by decide
theorem tC4 : (4 : Int32).toNatClampNeg = 4 := by decide
theorem tC5 : (5 : Int32).toNatClampNeg = 5 := by decide
theorem tC6 : (6 : Int32).toNatClampNeg = 6 := by decide
theorem tC7 : (7 : Int32).toNatClampNeg = 7 := by decide
theorem tC8 : (8 : Int32).toNatClampNeg = 8 := by decide
theorem tC9 : (9 : Int32).toNatClampNeg = 9 := by decide
theorem tC10 : (10 : Int32).toNatClampNeg = 10 := by decide
theorem tC11 : (11 : Int32).toNatClampNeg = 11 := by decide
theorem tB1 : ((1 : Int32) < 0 ∨ 12 ≤ 1) = False := by decide
theorem tB2 : ((2 : Int32) < 0 ∨ 12 ≤ 2) = False := by decide
theorem tB3 : ((3 : Int32) < 0 ∨ 12 ≤ 3) = False := by decide
theorem tB4 : ((4 : Int32) < 0 ∨ 12 ≤ 4) = False := by decide
theorem tB5 : ((5 : Int32) < 0 ∨ 12 ≤ 5) = False := by decide
theorem tB6 : ((6 : Int32) < 0 ∨ 12 ≤ 6) = False := by decide
theorem tB7 : ((7 : Int32) < 0 ∨ 12 ≤ 7) = False := by decide
theorem tB8 : ((8 : Int32) < 0 ∨ 12 ≤ 8) = False := by decide
theorem tB9 : ((9 : Int32) < 0 ∨ 12 ≤ 9) = False := by decide
theorem tB10 : ((10 : Int32) < 0 ∨ 12 ≤ 10) = False := by decide
theorem tB11 : ((11 : Int32) < 0 ∨ 12 ≤ 11) = False := by decide
theorem ixF {c N : Nat} (h : c < N) (hN : N < 2 ^ 31) : (nI c < 0 ∨ N ≤ c) = False := eq_false (nI_in2 h hN)
section BEGIN
variable {E : Ev} {A : Nat → Prop} {h : Hp} {y : Nat → Nat → Nat} {s : MS} {n cp : Nat → Nat} {fs fr : Int32} {cf gf : Nat → Int64} {i u c : Nat}
theorem JP.same {α : Type} {X : Nat → Nat → (α → Hp → Prop) → Prop} {r : α} (R : RXo E A h y s n cp) (w : W2 i u s n) (hX : ∀ kc ks Q, Q r h → X kc ks Q) : JP E A h y n cp i u X r s :=
  ⟨n, cp, w, Nat.le_refl _, Nat.le_refl _, fun kc ks _ _ Q hQ => hX kc ks Q (hQ h y R rfl xg.rf)⟩
theorem tg2 : ∀ t, t ≤ 11 → hasK 2 t = true → t = 1 ∨ t = 2 ∨ t = 8 := by decide +kernel
theorem J_begin (X : CX E A h y s n cp 1 fs fr cf gf) (w : W2 i u s n) (hu : u < 2000) (hc : c < n 0) (m13 : s.1 13 = fs) (m14 : s.1 14 = fr) (hAd : Ad n fs fr) (hf : s.2.2.2 17 4 = cf 4) :
    Mw (M_toCard s (nI c) 1) (JP E A h y n cp i (u + 1) (fun kc ks Q => m_X1_takesBegin E (y 3 c) (some (y 0 5)) h kc ks Q)) := by
  have R := X.1
  have hn0 := R.2.1.1.2
  have hn4 : n 4 ≤ u := by have := w.1.2.2.2.2.1.2; omega
  have hn2 := R.2.1.2.2.1
  have cc : (nI c).toNatClampNeg = c := nI_clamp (by omega)
  have cb : (nI c < 0 ∨ 16 ≤ c) = False := ixF (by omega) (by omega)
  have x := X.card hc
  unfold M_toCard M_toCard_L126 M_toCard_L148 M_toCard_L170
  simp only [cc, cb, if_false, if_true, lt1, tC1, tC2, tC3, tC4, tC5, tC6, tC7, tC8, tB1, tB2, tB3, tB4, tB5, tB6, tB7, tB8, show ¬ (1 : Int32) = 3 by decide, show ¬ (1 : Int32) = 5 by decide, show ¬ (1 : Int32) = 9 by decide]
  refine Mw.i (fun q => Mw.r (JP.same R (w.mono (Nat.le_refl _) (by omega)) (fun kc ks Q hQ => gI_of x rfl ⟨fun z => absurd q (Int32.not_le.mpr z), fun _ => hQ⟩))) (fun q => Mw.b ?_)
  have q' : s.2.2.1 27 c < 60000 := Int32.not_le.mp q
  obtain ⟨r1, s1, e1, hW⟩ := M_writes_spec (s := s) (c := c) (by omega) (w.2.2.2.2.2.2.1 c hc)
  refine Mw.e e1 ?_
  have w1 := hW.w w hc
  by_cases z : r1 = 0
  · subst z
    refine Mw.y rfl (Mw.r ⟨n, cp, w1.mono (Nat.le_refl _) (by omega), Nat.le_refl _, Nat.le_refl _, fun kc ks k1 k2 Q hQ => ?_⟩)
    refine gI_of x rfl ⟨fun _ => isO_of x (cK_of 1 8 (by omega) (by omega) (s_lose X hc hW ⟨by omega, by omega⟩ (fun h' p X' gA => ?_))), fun z => absurd q' z⟩
    exact ⟨fun z => absurd z (by decide), fun _ => hQ h' _ X'.1 rfl gA⟩
  have hr : (if r1 = 0 then (1 : Int32) else 0) = 0 := if_neg z
  refine Mw.no z ?_
  have m13' : s1.1 13 = fs ∧ s1.1 14 = fr ∧ s1.2.2.2 17 = s.2.2.2 17 ∧ (s1.2.2.1 35 c = -1 ∨ ∃ p, p ≤ 9 ∧ s1.2.2.1 35 c = nI p) := by
    refine ⟨?_, ?_, ?_, w1.2.2.2.2.2.2.1 c hc⟩
    · rcases hW with ⟨_, _, rfl⟩ | ⟨_, _, rfl⟩ | ⟨p, _, _, _, rfl⟩ <;> exact m13
    · rcases hW with ⟨_, _, rfl⟩ | ⟨_, _, rfl⟩ | ⟨p, _, _, _, rfl⟩ <;> exact m14
    · rcases hW with ⟨_, _, rfl⟩ | ⟨_, _, rfl⟩ | ⟨p, _, _, _, rfl⟩ <;> rfl
  obtain ⟨m13', m14', m17, mp⟩ := m13'
  dsimp only
  refine Mw.begb (Mw.moreb (by simp) (Mw.moreb (by simp) (Mw.moreb (by simp) ?_)))
  have e27 : (mA (mA (mA s1 27 c (s1.2.2.1 27 c + 1)) 30 c 1) 31 c 0).2.2.1 27 c = s1.2.2.1 27 c + 1 := by simp [mA, va_up, upd]
  have w2 : W2 i u (mA (mA (mA s1 27 c (s1.2.2.1 27 c + 1)) 30 c 1) 31 c 0) n := w1.cd hc rfl rfl (fun j hj => by simp [cdv, mA, va_up, upd, hj]) (by simpa [mA, va_up, upd] using mp)
  generalize hs2 : mA (mA (mA s1 27 c (s1.2.2.1 27 c + 1)) 30 c 1) 31 c 0 = s2 at e27 w2 ⊢
  have e4 : s2.2.2.2 17 = s.2.2.2 17 ∧ s2.1 13 = fs ∧ s2.1 14 = fr := by rw [← hs2]; exact ⟨m17, m13', m14'⟩
  generalize hl0 : [(2 : Int64)] ++ [(nI c).toInt64] ++ [((rowS s2 ([2] ++ [(nI c).toInt64])).2.2.1 27 c).toInt64] ++ [(rowS s2 ([2] ++ [(nI c).toInt64] ++ [((rowS s2 ([2] ++ [(nI c).toInt64])).2.2.1 27 c).toInt64])).2.2.2 17 4] = l
  have hl : l = [2, (nI c).toInt64, (s1.2.2.1 27 c + 1).toInt64, cf 4] := by
    rw [← hl0, ← e27, ← hf, ← e4.1]; rfl
  have hll : l.length = 4 := by rw [hl]; rfl
  refine Mw.b ?_
  obtain ⟨r3, s3, n3, cp3, e3, hS3⟩ := M_seal_row (n := n) (cp := cp) (s := mL (mL (rowS s2 l) 18 1 (nI c).toInt64) 18 2 ((mL (rowS s2 l) 18 1 (nI c).toInt64).2.2.1 27 c).toInt64) (l := l) (rowS_l s2 l) (by omega) w2.1.2.2.2.2.1.1 (by omega) 0 (nI c).toInt64
  refine Mw.e e3 ?_
  have w3 := (w2.eqv (s1 := mL (mL (rowS s2 l) 18 1 (nI c).toInt64) 18 2 ((mL (rowS s2 l) 18 1 (nI c).toInt64).2.2.1 27 c).toInt64) rfl).seal (by omega) (by omega) hS3
  obtain ⟨F1, F2, F3, F4⟩ := hS3.F (by omega) R.2.1.2.2.2.2.2.2.2.2.2.2
  obtain ⟨S1, S2, S3, S4⟩ := hS3.sc
  have hn32 : n3 2 = n 2 := F4 2 (by omega)
  have hn39 : n3 9 = n 9 := F4 9 (by omega)
  have hn30 : n3 0 = n 0 := F4 0 (by omega)
  have hn31 : n3 1 = n 1 := F4 1 (by omega)
  dsimp only
  refine Mw.bv (M_reply_spec (s := mL s3 18 8 r3.toInt64) (n := n3) (k := 2) (by omega) w3.1.2.2.1.1 (by omega) (fun r4 s4 n4 hS4 => ?_))
  have f13 : s3.1 13 = fs := (S2 13 (by omega)).trans e4.2.1
  have f14 : s3.1 14 = fr := (S2 14 (by omega)).trans e4.2.2
  have hS4 : SendR (mL s3 18 8 r3.toInt64) 2 0 (nI c) fs fr ((mL s3 18 8 r3.toInt64).2.2.2 18) n3 r4 s4 n4 := by
    rw [← f13, ← f14]; exact hS4
  obtain ⟨G1, G2, G3, G4⟩ := hS4.F (cp := cp3) (by omega)
  have w4 := (w3.eqv (s1 := mL s3 18 8 r3.toInt64) rfl).send (by omega) (Or.inl ⟨rfl, c, by omega, rfl⟩) (hAd.m (by omega) (by omega)) hS4
  refine Mw.r ⟨n4, cp3, w4, by omega, by omega, fun kc ks k1 k2 Q hQ => ?_⟩
  refine gI_of x rfl ⟨fun _ => isO_of x (cK_of 1 8 (by omega) (by omega) (s_lose X hc hW ⟨by omega, by omega⟩ (fun h1 p1 X1 g1 => ?_))), fun z => absurd q' z⟩
  rw [hr]
  refine ⟨fun _ => ?_, fun z => absurd rfl z⟩
  have x1 := X1.card hc
  have y3 : ∀ p, up2 y 4 c p 3 c = y 3 c := fun _ => rfl
  obtain ⟨a1, a2, a3, a4, a5, a6, a7, a8, ap, aq⟩ := X1.asked hc
  have npc : up2 y 4 c p1 4 c ≠ y 3 c := nP_obj x1 (by decide) _ _ ap
  refine gI_of x1 rfl (pV_of x1 (by show 5 < 12; decide) (pV_of x1.set (by show 8 < 12; decide) (pV_of x1.set.set (by show 10 < 12; decide) ?_)))
  obtain ⟨X2, g2⟩ := X1.cd (s' := s2) (p := up2 y 4 c p1 4 c) (x22 := s1.2.2.1 22 c) (x23 := s1.2.2.2 23 c) (x24 := s1.2.2.1 24 c) (x27 := s1.2.2.1 27 c + 1) (x28 := s1.2.2.1 28 c) (x29 := s1.2.2.1 29 c) (x30 := 1) (x35 := s1.2.2.1 35 c) (x31 := 0) (x32 := s1.2.2.2 32 c) (x33 := s1.2.2.2 33 c) (x34 := s1.2.2.2 34 c) (x25 := s1.2.2.2 25 c) (x26 := s1.2.2.1 26 c) hc (((xg.set (S := fun a => a = y 3 c) rfl).tr (xg.set (S := fun a => a = y 3 c) rfl)).tr (xg.set (S := fun a => a = y 3 c) rfl)) (Or.inl rfl) (by rw [← hs2]; simp [cdv, mA, va_up, upd]) x1.set.set.set ⟨_, _, _, _, _, _, _, _, ((ap.ne npc).ne npc).ne npc, fun z => absurd z (by decide)⟩ (by rw [← hs2]; rfl) (by rw [← hs2]; rfl) (fun j hj => by rw [← hs2]; simp [cdv, mA, va_up, upd, hj]) rfl rfl
  have x2 := X2.card hc
  obtain ⟨b1, b2, b3, go2⟩ := X2.goes
  refine gR_of x2 rfl (nN_of (gR_of X2.world rfl (nN_of (gR_of go2 rfl (gI_of x2 rfl (nN_of (sL_of X2.2.2.2 (j := 1) rfl (by omega) (by omega) ?_)))))))
  obtain ⟨X3, g3⟩ := X2.gs 1 (nI c).toInt64
  have x3 := X3.card hc
  obtain ⟨b1, b2, b3, go3⟩ := X3.goes
  refine gR_of x3 rfl (nN_of (gR_of X3.world rfl (nN_of (gR_of go3 rfl (gI_of x3 rfl (nN_of (sL_of X3.2.2.2 (j := 2) rfl (by omega) (by omega) ?_)))))))
  obtain ⟨X4, g4⟩ := X3.gs 2 (s2.2.2.1 27 c).toInt64
  have x4 := X4.card hc
  obtain ⟨b1, b2, b3, go4⟩ := X4.goes
  obtain ⟨-, -, -, -, -, ⟨z0, z1, z2, f5⟩, -⟩ := id X4.1.2.2.1
  refine gR_of x4 rfl (nN_of (gR_of X4.world rfl (nN_of (gR_of go4 rfl (gR_of x4 rfl (nN_of (gR_of X4.world rfl (gI_of x4 rfl (gI_of x4 rfl (nN_of (gR_of X4.2.1 rfl (nN_of (aL_of X4.2.2.1 (j := 4) rfl (by omega) (by omega) rfl (nN_of (isO_of f5 (s_ofCard X4.1 _ (fun h5 S5 => ?_)))))))))))))))))
  have X5 : CX E A h5 _ s2 n cp 1 fs fr cf _ := X4.ys S5.1 S5.2.1 ⟨by unfold rowP; omega, by unfold rowP; omega, by unfold rowP; omega⟩ (fun _ => rfl)
  obtain ⟨-, -, -, -, -, ⟨z0, z1, z2, f5'⟩, -⟩ := id X5.1.2.2.1
  refine nN_of (isO_of f5' (cK_of (Fc n - Fc n3) (Fs n cp - Fs n3 cp3) (by omega) (by omega) ?_))
  have S6 := S5.re (s' := mL (mL (rowS s2 l) 18 1 (nI c).toInt64) 18 2 ((mL (rowS s2 l) 18 1 (nI c).toInt64).2.2.1 27 c).toInt64) (l' := l) rfl (by rw [hl, e27])
  rw [show (256 : Int32) * 0 + (nI c).toInt64.toInt32 = nI (256 * 0 + c) from keyc 0 c] at hS3
  refine s_seal S6 (by omega) (by omega) (by omega) (by omega) hS3 (by omega) (by omega) (fun h6 y6 R6 g6 hy6 => ?_)
  have X6 : CX E A h6 y6 s3 n3 cp3 1 fs fr cf _ := (X5.eqv (s' := mL (mL (rowS s2 l) 18 1 (nI c).toInt64) 18 2 ((mL (rowS s2 l) 18 1 (nI c).toInt64).2.2.1 27 c).toInt64) rfl).ys R6 g6 ⟨by unfold sealP; omega, by unfold sealP; omega, by unfold sealP; omega⟩ (fun j => hy6 0 j (by omega) (by omega) (by omega))
  have yy : ∀ j, y6 0 j = y 0 j := fun j => hy6 0 j (by omega) (by omega) (by omega)
  have y63 : y6 3 c = y 3 c := hy6 3 c (by omega) (by omega) (by omega)
  have q8 := X6.2.2.2
  rw [yy 8] at q8
  refine nN_of (sL_of q8 (j := 8) rfl (by omega) (by omega) ?_)
  obtain ⟨X7, g7⟩ := X6.gs 8 r3.toInt64
  rw [yy 8] at X7 g7
  have x7 := X7.card (c := c) (by omega)
  rw [y63] at x7
  refine isO_of x7 (cK_of (Fc n3 - Fc n4) (Fs n3 cp3 - Fs n4 cp3) (by omega) (by omega) ?_)
  have X8 := X7.eqv (s' := mL s3 18 8 r3.toInt64) rfl
  have := s_reply (c := c) (k := 2) (kc := Fc n3 - Fc n4) (ks := Fs n3 cp3 - Fs n4 cp3) (Q := fun h90 => Q 1 h90) X8 (w3.eqv rfl) (by omega) (by omega) (fun t t1 t2 ht => ?_) hS4 (by omega) (by omega) (fun h9 y9 R9 hy9 g9 => hQ h9 y9 R9 ((hy9 0 0 (by omega) (by omega)).trans (yy 0)) ?_)
  · rw [y63, yy 5] at this; exact this
  · show _ = vp_updL (s3.2.2.2 18) 8 r3.toInt64 t
    rw [S1 18 (by omega)]
    rcases tg2 t t2 ht with rfl | rfl | rfl
    · show (nI c).toInt64 = (nI c).toInt64; rfl
    · show (s2.2.2.1 27 c).toInt64 = (s2.2.2.1 27 c).toInt64; rfl
    · show r3.toInt64 = r3.toInt64; rfl
  · exact g1.tr (g2.tr (g3.tr (g4.tr ((YS.a X4.1.1 S5.2.1).tr ((YS.a X5.1.1 g6).tr (g7.tr g9))))))
end BEGIN
