/-! a terminal takes WORD and LAST -/
section TWORD
variable {E : Ev} {A S : Nat → Prop} {h h' : Hp} {y y' : Nat → Nat → Nat} {s s' : MS} {n cp n' cp' : Nat → Nat} {kd fs fr : Int32} {cf gf v : Nat → Int64} {i u t : Nat} {r : Int32}
theorem tg9 : ∀ t, t ≤ 11 → hasK 9 t = true → t = 8 ∨ t = 10 := by decide +kernel
theorem CX.t51 {wd : Int32} (X : CX E A h y s n cp kd fs fr cf gf) (ht : t < n 1) (h41 : s.2.2.1 41 t = 8) (v : Int32) (x : xh_at h (y 5 t) (.inr (9, termL y t (y 6 t) (s.2.2.2 37 t) (s.2.2.2 38 t) (s.2.2.1 40 t) (s.2.2.2 39 t) (s.2.2.1 43 t) (s.2.2.1 46 t) (s.2.2.1 48 t) (s.2.2.1 51 t) (s.2.2.1 41 t) wd))) :
    CX E A (xh_set h (y 5 t) (.inr (9, termL y t (y 6 t) (s.2.2.2 37 t) (s.2.2.2 38 t) (s.2.2.1 40 t) (s.2.2.2 39 t) (s.2.2.1 43 t) (s.2.2.1 46 t) (s.2.2.1 48 t) v (s.2.2.1 41 t) wd))) y (mA s 51 t v) n cp kd fs fr cf gf ∧ xg A h (xh_set h (y 5 t) (.inr (9, termL y t (y 6 t) (s.2.2.2 37 t) (s.2.2.2 38 t) (s.2.2.1 40 t) (s.2.2.2 39 t) (s.2.2.1 43 t) (s.2.2.1 46 t) (s.2.2.1 48 t) v (s.2.2.1 41 t) wd))) := by
  obtain ⟨wd', x', xp1, c1, k1, am1, un1, tt1, w1, a1, sl1, e1, e2, e3, e4, e5⟩ := X.1.term ht
  have ew : wd' = wd := by
    have e := x'.2.symm.trans x.2
    injection e with e
    injection e with _ e
    unfold termL at e
    simp only [List.cons.injEq, Value.int.injEq] at e
    exact e.2.2.2.2.2.2.2.2.2.2.2.2.2.1
  subst ew
  have hd := X.1.dj ht (by rw [h41]; decide)
  have n6 : y 6 t ≠ y 5 t := nP_obj x (by decide) _ _ e1
  have := X.tm (S := fun a => a = y 5 t) (s' := mA s 51 t v) (p := y 6 t) (x37 := s.2.2.2 37 t) (x38 := s.2.2.2 38 t) (x40 := s.2.2.1 40 t) (x39 := s.2.2.2 39 t) (x43 := s.2.2.1 43 t) (x46 := s.2.2.1 46 t) (x48 := s.2.2.1 48 t) (x51 := v) (x41 := s.2.2.1 41 t) (x42 := s.2.2.2 42 t) (x44 := s.2.2.2 44 t) (x45 := s.2.2.2 45 t) (x47 := s.2.2.1 47 t) (x49 := s.2.2.1 49 t) (x50 := s.2.2.1 50 t) (wd := wd') ht (xg.set (S := fun a => a = y 5 t) rfl) (fun a z => Or.inl z) (fun z => absurd z n6) (Or.inl ⟨rfl, Or.inl hd⟩) (by simp [tmv, mA, va_up, upd]) (xh_at.set x) ⟨xp1, c1, k1, am1, un1, tt1, w1, a1, sl1, e1.ne n6, e2, e3, e4, e5⟩ rfl rfl (fun j hj => by simp [tmv, mA, va_up, upd, hj]) rfl
  rw [up2_id] at this
  exact this
theorem W2.t51 (w : W2 i u s n) (ht : t < n 1) (v : Int32) : W2 i u (mA s 51 t v) n := w.tm ht rfl rfl (fun j hj => by simp [tmv, mA, va_up, upd, hj]) (by simpa [mA, va_up] using w.2.2.2.2.2.1 t ht)
theorem J_tword {q10 : Nat} (X : CX E A h y s n cp kd fs fr cf gf) (w : W2 i u s n) (hu : u < 2000) (ht : t < n 1) (h41 : s.2.2.1 41 t = 8) (f1 : s.2.2.2 17 1 = cf 1) (f2 : s.2.2.2 17 2 = cf 2) (f8 : s.2.2.2 17 8 = cf 8) (f10 : s.2.2.2 17 10 = cf 10) (f11 : s.2.2.2 17 11 = cf 11) (e10 : cf 10 = (nI q10).toInt64) :
    Mw (M_takeWord s (nI t)) (JP E A h y n cp i u (fun kc ks Q => m_X8_takesWord E (y 5 t) (some (y 0 5)) h kc ks Q)) := by
  have R := X.1
  have hn1 := R.2.1.2.1.2
  have hn2 := R.2.1.2.2.1
  have hn4 : n 4 ≤ u := by have := w.1.2.2.2.2.1.2; omega
  have cc : (nI t).toNatClampNeg = t := nI_clamp (by omega)
  have cb : (nI t < 0 ∨ 8 ≤ t) = False := ixF (by omega) (by omega)
  obtain ⟨wd, x, xp1, c0, kk, am, un, tt, w0, a0, sl, ap, xp2, xp3, xp4, xp5⟩ := R.term ht
  obtain ⟨rfl, rfl, rfl⟩ := xp2 (by rw [h41]; decide)
  have hc0 := xp3 (Or.inr (Or.inr (Or.inl h41)))
  have hw0 := xp4 (Or.inr (Or.inl h41))
  have hkk := xp5 (Or.inl h41)
  subst hc0 hw0 hkk
  obtain ⟨h43, -, h47⟩ := w.2.2.2.2.2.1 t ht (by rw [h41]; decide)
  have h47 := h47 (by rw [h41]; decide)
  have z10 : (cf 10).toInt32 = nI q10 := by rw [e10, Int32.toInt32_toInt64]
  unfold M_takeWord
  dsimp only [lt1]
  simp only [cc, cb, if_false, tC1, tC2, tC8, tC10, tC11, tB1, tB2, tB8, tB10, tB11]
  refine Mw.begb (Mw.moreb (by simp) (Mw.moreb (by simp) (Mw.moreb (by simp) (Mw.moreb (by simp) ?_))))
  simp only [rowS_17, (rowS_o _ _).1, rowS_A, f1, f2, f8, f10, f11, List.cons_append, List.nil_append]
  have hl0 : rowl (rowS s [8, cf 1, cf 2, cf 10, s.2.2.2 44 t]) [8, cf 1, cf 2, cf 10, s.2.2.2 44 t] := rowS_l s _
  generalize hl : [8, cf 1, cf 2, cf 10, s.2.2.2 44 t] = l at hl0
  have hll : l.length = 5 := by rw [← hl]; rfl
  have Xr := X.eqv (s' := rowS s l) (vis_row s l)
  have wr := w.eqv (s1 := rowS s l) (vis_row s l)
  have no0 : (∀ kc ks (Q : Int32 → Hp → Prop), (∀ h1, CX E A h1 y s n cp kd fs fr cf gf → xg A h h1 → Q 0 h1) → m_X8_takesWord E (y 5 t) (some (y 0 5)) h kc ks Q) → JP E A h y n cp i u (fun kc ks Q => m_X8_takesWord E (y 5 t) (some (y 0 5)) h kc ks Q) (0 : Int32) (rowS s l) := by
    intro hX
    exact ⟨n, cp, wr, Nat.le_refl _, Nat.le_refl _, fun kc ks _ _ Q hQ => hX kc ks Q (fun h1 X1 g1 => hQ h1 y (X1.1.eqv (vis_row s l)) rfl g1)⟩
  obtain ⟨-, -, -, -, -, ⟨u0, u1, u2, f5⟩, -⟩ := id R.2.2.1
  refine Mw.i (fun a1 => ?_) (fun a1 => Mw.r (no0 (fun kc ks Q hQ => ?_)))
  rotate_left
  · refine nN_of (isO_of X.2.1 (gR_of X.2.1 rfl (nN_of (aL_of X.2.2.1 (j := 10) rfl (by omega) (by omega) rfl (gR_of X.2.1 rfl (nN_of (aL_of X.2.2.1 (j := 1) rfl (by omega) (by omega) rfl (gR_of x rfl (nN_of (gI_of ap rfl ⟨fun z => absurd z a1, fun _ => hQ h X xg.rf⟩))))))))))
  refine Mw.i (fun a2 => Mw.b ?_) (fun a2 => Mw.r (no0 (fun kc ks Q hQ => ?_)))
  rotate_left
  · refine nN_of (isO_of X.2.1 (gR_of X.2.1 rfl (nN_of (aL_of X.2.2.1 (j := 10) rfl (by omega) (by omega) rfl (gR_of X.2.1 rfl (nN_of (aL_of X.2.2.1 (j := 1) rfl (by omega) (by omega) rfl (gR_of x rfl (nN_of (gI_of ap rfl ⟨fun _ => gR_of X.2.1 rfl (nN_of (aL_of X.2.2.1 (j := 2) rfl (by omega) (by omega) rfl (gR_of x rfl (nN_of (gI_of ap rfl ⟨fun z => absurd z a2, fun _ => hQ h X xg.rf⟩))))), fun z => absurd a1 z⟩))))))))))
  obtain ⟨hy1, hy0⟩ := M_good_row hl0 (by omega) wr.1.2.2.2.2.1.1 (by omega) wr.2.2.2.2.2.2.2.1 1 (nI t).toInt64 (cf 11)
  rw [show (256 : Int32) * 1 + (nI t).toInt64.toInt32 = nI (256 * 1 + t) from keyc 1 t] at hy1 hy0
  have cls : ∀ (kc ks : Nat) (Q : Int32 → Hp → Prop) (b : Int32), ((b = 1 ∧ Good (rowS s l) (nI (256 * 1 + t)) l.length (fun i => l.getD i 0) (n 4) (cf 11)) ∨ (b = 0 ∧ ¬ Good (rowS s l) (nI (256 * 1 + t)) l.length (fun i => l.getD i 0) (n 4) (cf 11))) → (∀ h1, CX E A h1 y s n cp kd fs fr cf gf → PAY h1 (y 6 t) (s.2.2.1 47 t) (s.2.2.1 50 t) (s.2.2.2 44 t) (s.2.2.2 45 t) (nI t) (s.2.2.1 49 t) a0 sl → xg A h h1 → (b = 0 → Q 0 h1) ∧ (¬ b = 0 → pV h1 (y 5 t) 9 11 (.int (nI q10)) fun h49 => gR h49 (y 5 t) 9 0 fun r51 => nN r51 fun a53 => gR h49 a53 11 7 fun r54 => nN r54 fun a56 => gR h49 a56 3 3 fun r57 => gI h49 (y 5 t) 9 11 fun x59 => nN r57 fun a61 => sL E h49 1 a61 10 x59.toInt64 fun h62 => gR h62 (y 5 t) 9 0 fun r64 => nN r64 fun a66 => gR h62 a66 11 7 fun r67 => nN r67 fun a69 => gR h62 a69 3 3 fun r70 => gR h62 (y 0 5) 3 3 fun r72 => nN r72 fun a74 => aL E h62 1 a74 8 fun y75 => nN r70 fun a77 => sL E h62 1 a77 8 y75 fun h78 => isO h78 (y 5 t) 9 (cK kc ks fun mc80 ms81 kc82 ks83 => m_X8_sendToCard E (y 5 t) 9 10 h78 mc80 ms81 (fun h85 => Q 1 h85)))) → m_X8_takesWord E (y 5 t) (some (y 0 5)) h kc ks Q := by
    intro kc ks Q b hb hn
    refine nN_of (isO_of X.2.1 (gR_of X.2.1 rfl (nN_of (aL_of X.2.2.1 (j := 10) rfl (by omega) (by omega) rfl (gR_of X.2.1 rfl (nN_of (aL_of X.2.2.1 (j := 1) rfl (by omega) (by omega) rfl (gR_of x rfl (nN_of (gI_of ap rfl ⟨fun _ => gR_of X.2.1 rfl (nN_of (aL_of X.2.2.1 (j := 2) rfl (by omega) (by omega) rfl (gR_of x rfl (nN_of (gI_of ap rfl ⟨fun _ => ?_, fun z => absurd a2 z⟩))))), fun z => absurd a1 z⟩))))))))))
    rw [z10]
    refine gR_of x rfl (nN_of (gR_of X.world rfl (gR_of x rfl (nN_of (isO_of f5 (s_ofWordToTerminal R ap (fun h1 S1 => ?_)))))))
    have X1 : CX E A h1 y s n cp kd fs fr cf gf := X.ys S1.1 S1.2.1 ⟨by unfold rowP; omega, by unfold rowP; omega, by unfold rowP; omega⟩ (fun _ => rfl)
    have ap1 : PAY h1 (y 6 t) (s.2.2.1 47 t) (s.2.2.1 50 t) (s.2.2.2 44 t) (s.2.2.2 45 t) (nI t) (s.2.2.1 49 t) a0 sl := R.pay S1.2.1 ap
    have S2 := S1.re (s' := rowS s l) (l' := l) (vis_row s l) (by rw [← hl, e10, lg_eq.mp a1, lg_eq.mp a2])
    obtain ⟨-, -, -, -, -, ⟨z0, z1, z2, f5'⟩, -⟩ := id X1.1.2.2.1
    refine gR_of X1.2.1 rfl (nN_of (aL_of X1.2.2.1 (j := 11) rfl (by omega) (by omega) rfl (nN_of (isO_of f5' (s_isGood S2 (by omega) (by omega) (by omega) (fun hg => ?_) (fun hg => ?_))))))
    · rcases hb with ⟨rfl, _⟩ | ⟨rfl, hb⟩
      · exact hn h1 X1 ap1 (YS.a R.1 S1.2.1)
      · exact absurd hg hb
    · rcases hb with ⟨rfl, hb⟩ | ⟨rfl, _⟩
      · exact absurd hb hg
      · exact hn h1 X1 ap1 (YS.a R.1 S1.2.1)
  by_cases hg : Good (rowS s l) (nI (256 * 1 + t)) l.length (fun i => l.getD i 0) (n 4) (cf 11)
  rotate_left
  · exact Mw.e (hy0 hg) (Mw.y rfl (Mw.r (no0 (fun kc ks Q hQ => cls kc ks Q 0 (Or.inr ⟨rfl, hg⟩) (fun h1 X1 ap1 g1 => ⟨fun _ => hQ h1 X1 g1, fun z => absurd rfl z⟩)))))
  refine Mw.e (hy1 hg) (Mw.no (show ¬ (1 : Int32) = 0 by decide) ?_)
  dsimp only
  have eK : mL (mL (mA (rowS s l) 51 t ((rowS s l).2.2.2 17 10).toInt32) 18 8 ((mA (rowS s l) 51 t ((rowS s l).2.2.2 17 10).toInt32).2.2.2 17 8)) 18 10 ((mL (mA (rowS s l) 51 t ((rowS s l).2.2.2 17 10).toInt32) 18 8 ((mA (rowS s l) 51 t ((rowS s l).2.2.2 17 10).toInt32).2.2.2 17 8)).2.2.2 17 10) = mL (mL (mA (rowS s l) 51 t (nI q10)) 18 8 (cf 8)) 18 10 (cf 10) := by
    rw [mL18_17, mA_L, rowS_17, f8, f10, z10]
  rw [eK]
  have hvK : vis (mL (mL (mA (rowS s l) 51 t (nI q10)) 18 8 (cf 8)) 18 10 (cf 10)) = vis (mA s 51 t (nI q10)) := by
    rw [vis_18, vis_18]; rfl
  have wK : W2 i u (mL (mL (mA (rowS s l) 51 t (nI q10)) 18 8 (cf 8)) 18 10 (cf 10)) n := (w.t51 ht (nI q10)).eqv hvK
  have kA : ∀ k, k ≠ 51 → (mL (mL (mA (rowS s l) 51 t (nI q10)) 18 8 (cf 8)) 18 10 (cf 10)).2.2.1 k = s.2.2.1 k := by
    intro k hk
    rw [mL_A, mL_A]
    show va_up (rowS s l).2.2.1 51 _ k = _
    rw [va_up_ne _ _ hk, rowS_A]
  have k18 : (mL (mL (mA (rowS s l) 51 t (nI q10)) 18 8 (cf 8)) 18 10 (cf 10)).2.2.2 18 = vp_updL (vp_updL (s.2.2.2 18) 8 (cf 8)) 10 (cf 10) := by rw [mL_18, mL_18, mA_L, rowS_18]
  have k44 : (mL (mL (mA (rowS s l) 51 t (nI q10)) 18 8 (cf 8)) 18 10 (cf 10)).2.2.2 44 = s.2.2.2 44 := by rw [(mL18_o _ _ _).1, (mL18_o _ _ _).1, mA_L, (rowS_o _ _).1]
  have k45 : (mL (mL (mA (rowS s l) 51 t (nI q10)) 18 8 (cf 8)) 18 10 (cf 10)).2.2.2 45 = s.2.2.2 45 := by rw [(mL18_o _ _ _).2, (mL18_o _ _ _).2, mA_L, (rowS_o _ _).2.1]
  generalize hsK : mL (mL (mA (rowS s l) 51 t (nI q10)) 18 8 (cf 8)) 18 10 (cf 10) = sK at hvK wK kA k18 k44 k45 ⊢
  refine Mw.bv (M_toItsCard_spec (n := n) (k := 9) (x := 10) (by omega) wK.1.2.2.1.1 (by omega) (by omega) (fun r1 s1 n1 hS => Mw.r ?_))
  rw [k18] at hS
  obtain ⟨G1, G2, G3, G4⟩ := hS.F (cp := cp) (by omega)
  obtain ⟨S1, S2, S3, S4, -⟩ := hS.sc
  have m0 := G4 0 (by omega) (by omega)
  have m1 := G4 1 (by omega) (by omega)
  have w1 := hS.w (by omega) wK (Or.inr (Or.inl ⟨rfl, t, ht, rfl⟩)) (Or.inl ⟨rfl, by rw [kA 43 (by omega)]; exact h43⟩)
  refine ⟨n1, cp, w1.wt (x := 10) (by omega) (by omega) (by rw [S3 43 (by omega), kA 43 (by omega), m0]; exact h43) (fun _ => by rw [S3 47 (by omega), kA 47 (by omega), m0]; exact h47), G1, G2, fun kc ks k1 k2 Q hQ => cls kc ks Q 1 (Or.inl ⟨rfl, hg⟩) (fun h1 X1 ap1 g1 => ⟨fun z => absurd z (by decide), fun _ => ?_⟩)⟩
  obtain ⟨wd1, x1, -⟩ := X1.1.term ht
  have n6 : y 6 t ≠ y 5 t := nP_obj x1 (by decide) _ _ ap1
  refine pV_of x1 (by show 11 < 14; decide) ?_
  obtain ⟨X2, g2⟩ := X1.t51 ht h41 (nI q10) x1
  have ap2 : PAY _ (y 6 t) (s.2.2.1 47 t) (s.2.2.1 50 t) (s.2.2.2 44 t) (s.2.2.2 45 t) (nI t) (s.2.2.1 49 t) a0 sl := ap1.ne (a := y 5 t) (e' := .inr (9, termL y t (y 6 t) (s.2.2.2 37 t) (s.2.2.2 38 t) (s.2.2.1 40 t) (s.2.2.2 39 t) (s.2.2.1 43 t) (s.2.2.1 46 t) (s.2.2.1 48 t) (nI q10) (s.2.2.1 41 t) wd1)) n6
  obtain ⟨wd2, x2, -⟩ := X2.1.term ht
  obtain ⟨b1, b2, b3, go2⟩ := X2.goes
  have e51 : (mA s 51 t (nI q10)).2.2.1 51 t = nI q10 := by simp [mA, va_up, upd]
  rw [e51] at x2
  refine gR_of x2 rfl (nN_of (gR_of X2.world rfl (nN_of (gR_of go2 rfl (gI_of x2 rfl (nN_of (sL_of X2.2.2.2 (j := 10) rfl (by omega) (by omega) ?_)))))))
  obtain ⟨X3, g3⟩ := X2.gs 10 (nI q10).toInt64
  have ap3 := X2.g1 ap2 10 (nI q10).toInt64
  obtain ⟨wd3, x3, -⟩ := X3.1.term ht
  obtain ⟨b1, b2, b3, go3⟩ := X3.goes
  refine gR_of x3 rfl (nN_of (gR_of X3.world rfl (nN_of (gR_of go3 rfl (gR_of X3.2.1 rfl (nN_of (aL_of X3.2.2.1 (j := 8) rfl (by omega) (by omega) rfl (nN_of (sL_of X3.2.2.2 (j := 8) rfl (by omega) (by omega) ?_)))))))))
  obtain ⟨X4, g4⟩ := X3.gs 8 (cf 8)
  have ap4 := X3.g1 ap3 8 (cf 8)
  obtain ⟨wd4, x4, -⟩ := X4.1.term ht
  refine isO_of x4 (cK_of kc ks (Nat.le_refl _) (Nat.le_refl _) ?_)
  have X5 := X4.eqv (s' := sK) hvK
  refine s_toCard (k := 9) (x := 10) X5 wK ht (by omega) (by omega) (X5.1.dj ht (by rw [kA 41 (by omega), h41]; decide)) ap4 (by rw [k44]) (by rw [k45]) (fun _ => by rw [kA 47 (by omega)]) (fun _ _ => by rw [kA 49 (by omega)]) (fun _ => by rw [kA 50 (by omega)]) (fun q q1 q2 hq => ?_) hS (by omega) (by omega) (fun h9 y9 R9 hy9 g9 => hQ h9 y9 R9 (hy9 0 0 (by omega) (by omega)) (g1.tr (g2.tr (g3.tr (g4.tr g9)))))
  rcases tg9 q q2 hq with rfl | rfl
  · simp [vp_updL]
  · rw [e10]; simp [vp_updL]
def JZ {α : Type} (E : Ev) (A : Nat → Prop) (h : Hp) (y : Nat → Nat → Nat) (n cp : Nat → Nat) (i u : Nat) (X : Nat → Nat → (α → Hp → Prop) → Prop) (r : α) (s' : MS) : Prop :=
  W2 i u s' n ∧ ∀ kc ks, ∀ Q : α → Hp → Prop, (∀ h' y', RXo E A h' y' s' n cp → y' 0 0 = y 0 0 → xg A h h' → Q r h') → X kc ks Q
theorem J_tlast (X : CX E A h y s n cp kd fs fr cf gf) (w : W2 i u s n) (hu : u < 2000) (ht : t < n 1) (h41 : s.2.2.1 41 t = 10) (f7 : s.2.2.2 17 7 = cf 7) (f8 : s.2.2.2 17 8 = cf 8) :
    Mw (M_toTerminal_L111 s (nI t)) (JZ E A h y n cp i u (fun kc ks Q => m_X8_takeLast E (y 5 t) (some (y 0 5)) h kc ks (fun h' => Q 1 h'))) := by
  have R := X.1
  have hn0 := R.2.1.1.2
  have hn1 := R.2.1.2.1.2
  have hn4 : n 4 ≤ u := by have := w.1.2.2.2.2.1.2; omega
  have cc : (nI t).toNatClampNeg = t := nI_clamp (by omega)
  have cb : (nI t < 0 ∨ 8 ≤ t) = False := ixF (by omega) (by omega)
  obtain ⟨wd, x, xp1, c0, kk, am, un, tt, w0, a0, sl, ap, xp2, xp3, xp4, xp5⟩ := R.term ht
  obtain ⟨rfl, rfl, rfl⟩ := xp2 (by rw [h41]; decide)
  have hc0 := xp3 (Or.inr (Or.inr (Or.inr h41)))
  have hkk := xp5 (Or.inr h41)
  obtain ⟨-, -, h47⟩ := w.2.2.2.2.2.1 t ht (by rw [h41]; decide)
  obtain ⟨c, hc, hcc⟩ := h47 (by rw [h41]; decide)
  have c0c : c0 = nI c := hc0.trans hcc
  subst c0c
  unfold M_toTerminal_L111 M_toTerminal_L212 M_toTerminal_L213 M_toTerminal_L225
  dsimp only [lt1]
  simp only [cc, cb, if_false, tC7, tC8, tB7, tB8]
  refine Mw.begb (Mw.moreb (by simp) (Mw.moreb (by simp) (Mw.moreb (by simp) (Mw.moreb (by simp) (Mw.moreb (by simp) ?_)))))
  simp only [rowS_17, (rowS_o _ _).1, (rowS_o _ _).2.1, rowS_A, f7, f8, List.cons_append, List.nil_append]
  have hl0 : rowl (rowS s [10, 2, s.2.2.2 44 t, s.2.2.2 45 t, (nI t).toInt64, (s.2.2.1 50 t).toInt64]) [10, 2, s.2.2.2 44 t, s.2.2.2 45 t, (nI t).toInt64, (s.2.2.1 50 t).toInt64] := rowS_l s _
  generalize hl : [10, 2, s.2.2.2 44 t, s.2.2.2 45 t, (nI t).toInt64, (s.2.2.1 50 t).toInt64] = l at hl0
  have hll : l.length = 6 := by rw [← hl]; rfl
  have wr := w.eqv (s1 := rowS s l) (vis_row s l)
  have endJ : ∀ o : Int32, (∀ kc ks (Q : Int32 → Hp → Prop), (∀ h1, CX E A h1 y s n cp kd fs fr cf gf → xg A h h1 → m_X8_takeLast_L66 E o (some (y 5 t)) h1 kc ks (fun h' => Q 1 h')) → m_X8_takeLast E (y 5 t) (some (y 0 5)) h kc ks (fun h' => Q 1 h')) → Mw ((M_end (rowS s l) (nI t) o).bind fun s72 => some ((1 : Int32), s72)) (JZ E A h y n cp i u (fun kc ks Q => m_X8_takeLast E (y 5 t) (some (y 0 5)) h kc ks (fun h' => Q 1 h'))) := by
    intro o hX
    rw [M_end_eq _ (by omega)]
    refine Mw.r ⟨wr.tend ht o, fun kc ks Q hQ => hX kc ks Q (fun h1 X1 g1 => ?_)⟩
    obtain ⟨wd1, x1, -⟩ := X1.1.term ht
    exact nN_of (isO_of x1 (s_tend X1 ht (fun h2 X2 g2 => hQ h2 y (X2.1.eqv (vis_tend (vis_row s l) o)) rfl (g1.tr g2))))
  obtain ⟨-, -, -, -, -, ⟨u0, u1, u2, f5⟩, -⟩ := id R.2.2.1
  simp only [if_true, show ¬ (1 : Int32) = 0 by decide, if_false]
  refine Mw.i (fun a1 => ?_) (fun a1 => endJ 3 (fun kc ks Q hQ => gI_of x rfl ⟨fun z => absurd z a1, fun _ => ⟨fun _ => hQ h X xg.rf, fun z => absurd rfl z⟩⟩))
  refine Mw.i (fun a2 => Mw.b ?_) (fun a2 => endJ 3 (fun kc ks Q hQ => gI_of x rfl ⟨fun _ => nN_of (gR_of X.2.1 rfl (nN_of (aL_of X.2.2.1 (j := 7) rfl (by omega) (by omega) rfl ⟨fun z => absurd z a2, fun _ => ⟨fun _ => hQ h X xg.rf, fun z => absurd rfl z⟩⟩))), fun z => absurd a1 z⟩))
  obtain ⟨hy1, hy0⟩ := M_good_row hl0 (by omega) wr.1.2.2.2.2.1.1 (by omega) wr.2.2.2.2.2.2.2.1 0 (s.2.2.1 47 t).toInt64 (cf 8)
  rw [show (256 : Int32) * 0 + (s.2.2.1 47 t).toInt64.toInt32 = nI (256 * 0 + c) from by rw [hcc]; exact keyc 0 c] at hy1 hy0
  have cls : ∀ (kc ks : Nat) (Q : Hp → Prop) (b : Int32), ((b = 1 ∧ Good (rowS s l) (nI (256 * 0 + c)) l.length (fun i => l.getD i 0) (n 4) (cf 8)) ∨ (b = 0 ∧ ¬ Good (rowS s l) (nI (256 * 0 + c)) l.length (fun i => l.getD i 0) (n 4) (cf 8))) → (∀ h1, CX E A h1 y s n cp kd fs fr cf gf → xg A h h1 → (b = 0 → m_X8_takeLast_L66 E 3 (some (y 5 t)) h1 kc ks Q) ∧ (¬ b = 0 → m_X8_takeLast_L66 E 1 (some (y 5 t)) h1 kc ks Q)) → m_X8_takeLast E (y 5 t) (some (y 0 5)) h kc ks Q := by
    intro kc ks Q b hb hn
    refine gI_of x rfl ⟨fun _ => nN_of (gR_of X.2.1 rfl (nN_of (aL_of X.2.2.1 (j := 7) rfl (by omega) (by omega) rfl ⟨fun _ => ?_, fun z => absurd a2 z⟩))), fun z => absurd a1 z⟩
    refine gR_of x rfl (nN_of (gR_of X.world rfl (gR_of x rfl (nN_of (isO_of f5 (s_ofLast (b := 2) R ap (fun h1 S1 => ?_)))))))
    have X1 : CX E A h1 y s n cp kd fs fr cf gf := X.ys S1.1 S1.2.1 ⟨by unfold rowP; omega, by unfold rowP; omega, by unfold rowP; omega⟩ (fun _ => rfl)
    have S2 := S1.re (s' := rowS s l) (l' := l) (vis_row s l) (by rw [← hl, hkk]; rfl)
    obtain ⟨-, -, -, -, -, ⟨z0, z1, z2, f5'⟩, -⟩ := id X1.1.2.2.1
    refine gR_of X1.2.1 rfl (nN_of (aL_of X1.2.2.1 (j := 8) rfl (by omega) (by omega) rfl (nN_of (isO_of f5' (s_isGood S2 (by omega) (by omega) (by omega) (fun hg => ?_) (fun hg => ?_))))))
    · rcases hb with ⟨rfl, _⟩ | ⟨rfl, hb⟩
      · exact ⟨fun z => absurd z (by decide), fun _ => ⟨fun z => absurd z (by decide), fun _ => (hn h1 X1 (YS.a R.1 S1.2.1)).2 (by decide)⟩⟩
      · exact absurd hg hb
    · rcases hb with ⟨rfl, hb⟩ | ⟨rfl, _⟩
      · exact absurd hb hg
      · exact ⟨fun _ => ⟨fun _ => (hn h1 X1 (YS.a R.1 S1.2.1)).1 rfl, fun z => absurd rfl z⟩, fun z => absurd rfl z⟩
  by_cases hg : Good (rowS s l) (nI (256 * 0 + c)) l.length (fun i => l.getD i 0) (n 4) (cf 8)
  rotate_left
  · exact Mw.e (hy0 hg) (Mw.y rfl (endJ 3 (fun kc ks Q hQ => cls kc ks _ 0 (Or.inr ⟨rfl, hg⟩) (fun h1 X1 g1 => ⟨fun _ => hQ h1 X1 g1, fun z => absurd rfl z⟩))))
  refine Mw.e (hy1 hg) (Mw.no (show ¬ (1 : Int32) = 0 by decide) ?_)
  exact endJ 1 (fun kc ks Q hQ => cls kc ks _ 1 (Or.inl ⟨rfl, hg⟩) (fun h1 X1 g1 => ⟨fun z => absurd z (by decide), fun _ => hQ h1 X1 g1⟩))
end TWORD
