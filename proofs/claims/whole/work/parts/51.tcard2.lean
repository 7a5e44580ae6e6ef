section TCARD2
variable {E : Ev} {A S : Nat → Prop} {h h' : Hp} {y y' : Nat → Nat → Nat} {s s' : MS} {n cp n' cp' : Nat → Nat} {kd fs fr : Int32} {cf gf v : Nat → Int64} {i u t : Nat} {r : Int32}
theorem tg3 : ∀ t, t ≤ 11 → hasK 3 t = true → t = 9 := by decide +kernel
theorem lg_ge_n {a b : Nat} (ha : a < 2 ^ 31) (hb : b < 2 ^ 31) : 0 ≤ lg_cmp (nI a).toInt64 (nI b).toInt64 ↔ b ≤ a := by
  rw [nI_l ha, nI_l hb]
  constructor
  · intro z
    exact (pk_lLE (by omega) (by omega)).mp (Int64.not_lt.mp (fun q => Int32.not_lt.mpr z ((lg_cmp_lt _ _).mpr q)))
  · intro z
    exact Int32.not_lt.mp (fun q => Int64.not_lt.mpr ((pk_lLE (by omega) (by omega)).mpr z) ((lg_cmp_lt _ _).mp q))
theorem J_tcard {q1 q2 : Nat} (X : CX E A h y s n cp kd fs fr cf gf) (w : W2 i u s n) (hu : u < 2000) (ht : t < n 1) (h41 : s.2.2.1 41 t = 2) (f1 : s.2.2.2 17 1 = cf 1) (f2 : s.2.2.2 17 2 = cf 2) (f8 : s.2.2.2 17 8 = cf 8) (hq1 : q1 < 65536) (e1 : cf 1 = (nI q1).toInt64) (e2 : cf 2 = (nI q2).toInt64) :
    Mv (M_takeCard s (nI t)) (fun s' => JP E A h y n cp i u (fun kc ks Q => m_X8_takeCard E (y 5 t) (some (y 0 5)) h kc ks (fun h' => Q 1 h')) (1 : Int32) s') := by
  have R := X.1
  have hn0 := R.2.1.1.2
  have hn1 := R.2.1.2.1.2
  have hn2 := R.2.1.2.2.1
  have hn4 : n 4 ≤ u := by have := w.1.2.2.2.2.1.2; omega
  have cc : (nI t).toNatClampNeg = t := nI_clamp (by omega)
  have cb : (nI t < 0 ∨ 8 ≤ t) = False := ixF (by omega) (by omega)
  obtain ⟨wd, x, xp1, c0, kk, am, un, tt, w0, a0, sl, ap, xp2, -, -, -⟩ := R.term ht
  obtain ⟨rfl, rfl, rfl⟩ := xp2 (by rw [h41]; decide)
  have n6 : y 6 t ≠ y 5 t := nP_obj x (by decide) _ _ ap
  have z1 : (cf 1).toInt32 = nI q1 := by rw [e1, Int32.toInt32_toInt64]
  have z2 : (cf 2).toInt32 = nI q2 := by rw [e2, Int32.toInt32_toInt64]
  have b21 : s.1 21 = nI (n 0) := R.2.1.1.1
  unfold M_takeCard M_takeCard_L73
  dsimp only [lt1]
  simp only [cc, cb, if_false, tC1, tC2, tC8, tC9, tB1, tB2, tB8, tB9]
  refine Mv.begb (Mv.moreb (by simp) (Mv.moreb (by simp) (Mv.moreb (by simp) ?_)))
  simp only [rowS_17, (rowS_o _ _).1, (rowS_o _ _).2.1, (rowS_o _ _).2.2.2, rowS_21, f1, f2, f8, b21, List.cons_append, List.nil_append]
  have hl0 : rowl (rowS s [2, cf 1, cf 2, s.2.2.2 45 t]) [2, cf 1, cf 2, s.2.2.2 45 t] := rowS_l s _
  generalize hl : [2, cf 1, cf 2, s.2.2.2 45 t] = l at hl0
  have hll : l.length = 4 := by rw [← hl]; rfl
  have Xr := X.eqv (s' := rowS s l) (vis_row s l)
  have wr := w.eqv (s1 := rowS s l) (vis_row s l)
  have hend : ∀ V : MS → Prop, V (mA (mA (rowS s l) 40 t 3) 41 t 0) → Mv ((M_end (rowS s l) (nI t) 3).bind fun s56 => some s56) V := by
    intro V hV
    rw [M_end_eq _ (by omega)]
    exact ⟨_, rfl, hV⟩
  have JPe : ∀ (XX : Nat → Nat → (Int32 → Hp → Prop) → Prop), (∀ kc ks (Q : Int32 → Hp → Prop), (∀ h1, CX E A h1 y (rowS s l) n cp kd fs fr cf gf → xg A h h1 → m_X8_takeCard_L55 E (y 5 t) h1 kc ks (fun h' => Q 1 h')) → XX kc ks Q) → JP E A h y n cp i u XX (1 : Int32) (mA (mA (rowS s l) 40 t 3) 41 t 0) := by
    intro XX hX
    refine ⟨n, cp, wr.tend ht 3, Nat.le_refl _, Nat.le_refl _, fun kc ks _ _ Q hQ => hX kc ks Q (fun h1 X1 g1 => ?_)⟩
    obtain ⟨wd1, x1, -⟩ := X1.1.term ht
    exact isO_of x1 (s_tend X1 ht (fun h2 X2 g2 => hQ h2 y X2.1 rfl (g1.tr g2)))
  by_cases c1 : q1 < n 0
  rotate_left
  · refine Mv.y (by rw [e1]; exact (lg_ge_n (by omega) (by omega)).mpr (by omega)) (hend _ (JPe _ (fun kc ks Q hQ => ?_)))
    refine nN_of (isO_of X.2.1 (gR_of X.2.1 rfl (nN_of (aL_of X.2.2.1 (j := 1) rfl (by omega) (by omega) rfl (isO_of X.2.1 (gR_of X.2.1 rfl (nN_of (aL_of X.2.2.1 (j := 2) rfl (by omega) (by omega) rfl (gR_of x rfl (nN_of (isO_of X.world (s_isCard R (fun _ => ?_) (fun j hj e => ?_)))))))))))))
    · exact ⟨fun _ => hQ h Xr xg.rf, fun z => absurd rfl z⟩
    · rw [z1] at e
      exact absurd ((nI_eq (by omega) (by omega)).mp e) (by omega)
  refine Mv.no (by rw [e1]; exact fun z => absurd ((lg_ge_n (by omega) (by omega)).mp z) (by omega)) (Mv.b ?_)
  obtain ⟨-, -, -, -, -, ⟨u0, u1, u2, f5⟩, -⟩ := id R.2.2.1
  obtain ⟨hy1, hy0⟩ := M_good_row hl0 (by omega) wr.1.2.2.2.2.1.1 (by omega) wr.2.2.2.2.2.2.2.1 0 (cf 1) (cf 8)
  rw [show (256 : Int32) * 0 + (cf 1).toInt32 = nI (256 * 0 + q1) from by rw [e1]; exact keyc 0 q1] at hy1 hy0
  have cls : ∀ (kc ks : Nat) (Q : Hp → Prop) (b : Int32), ((b = 1 ∧ Good (rowS s l) (nI (256 * 0 + q1)) l.length (fun i => l.getD i 0) (n 4) (cf 8)) ∨ (b = 0 ∧ ¬ Good (rowS s l) (nI (256 * 0 + q1)) l.length (fun i => l.getD i 0) (n 4) (cf 8))) → (∀ h1, CX E A h1 y (rowS s l) n cp kd fs fr cf gf → xg A h h1 → PAY h1 (y 6 t) c0 kk (s.2.2.2 44 t) (s.2.2.2 45 t) (nI t) w0 a0 sl → (b = 0 → m_X8_takeCard_L55 E (y 5 t) h1 kc ks Q) ∧ (¬ b = 0 → gR h1 (y 5 t) 9 9 fun r40 => nN r40 fun a42 => pV h1 a42 6 0 (.int (nI q1)) fun h43 => pV h43 (y 5 t) 9 10 (.int (nI q2)) fun h45 => gR h45 (y 5 t) 9 9 fun r47 => nN r47 fun a49 => gL h45 a49 6 2 fun y50 => gL h45 (y 5 t) 9 3 fun y52 =>
      br ((lg_cmp y50 y52) < 0) (isO h45 (y 5 t) 9 (cK kc ks fun mc55 ms56 kc57 ks58 => m_X8_ask E (y 5 t) 0 h45 mc55 ms56 (fun h60 => Q h60))) (gR h45 (y 5 t) 9 0 fun r62 => nN r62 fun a64 => gR h45 a64 11 7 fun r65 => nN r65 fun a67 => gR h45 a67 3 3 fun r68 => gI h45 (y 5 t) 9 8 fun x70 => nN r68 fun a72 => sL E h45 1 a72 9 x70.toInt64 fun h73 => isO h73 (y 5 t) 9 (cK kc ks fun mc75 ms76 kc77 ks78 => m_X8_sendToCard E (y 5 t) 3 4 h73 mc75 ms76 (fun h80 => Q h80))))) → m_X8_takeCard E (y 5 t) (some (y 0 5)) h kc ks Q := by
    intro kc ks Q b hb hn
    refine nN_of (isO_of X.2.1 (gR_of X.2.1 rfl (nN_of (aL_of X.2.2.1 (j := 1) rfl (by omega) (by omega) rfl (isO_of X.2.1 (gR_of X.2.1 rfl (nN_of (aL_of X.2.2.1 (j := 2) rfl (by omega) (by omega) rfl (gR_of x rfl (nN_of (isO_of X.world (s_isCard R (fun q => ?_) (fun j hj e => ?_)))))))))))))
    · rw [z1] at q
      rcases q with q | q
      · exact absurd q (nI_pos (by omega))
      · exact absurd ((nI_leI (by omega) (by omega)).mp q) (by omega)
    rw [z1, z2]
    refine ⟨fun z => absurd z (by decide), fun _ => gR_of x rfl (nN_of (gR_of X.world rfl (gR_of x rfl (nN_of (gL_of ap rfl (nN_of (isO_of f5 (s_ofCard R _ (fun h1 S1 => ?_)))))))))⟩
    have X1 : CX E A h1 y s n cp kd fs fr cf gf := X.ys S1.1 S1.2.1 ⟨by unfold rowP; omega, by unfold rowP; omega, by unfold rowP; omega⟩ (fun _ => rfl)
    have ap1 : PAY h1 (y 6 t) c0 kk (s.2.2.2 44 t) (s.2.2.2 45 t) (nI t) w0 a0 sl := R.pay S1.2.1 ap
    have S2 := S1.re (s' := rowS s l) (l' := l) (vis_row s l) (by rw [← hl, e1, e2])
    obtain ⟨-, -, -, -, -, ⟨z0, z1, z2, f5'⟩, -⟩ := id X1.1.2.2.1
    refine gR_of X1.2.1 rfl (nN_of (aL_of X1.2.2.1 (j := 8) rfl (by omega) (by omega) rfl (nN_of (isO_of f5' (s_isGood S2 (by omega) (by omega) (by omega) (fun hg => ?_) (fun hg => ?_))))))
    · rcases hb with ⟨rfl, _⟩ | ⟨rfl, hb⟩
      · exact hn h1 (X1.eqv (vis_row s l)) (YS.a R.1 S1.2.1) ap1
      · exact absurd hg hb
    · rcases hb with ⟨rfl, hb⟩ | ⟨rfl, _⟩
      · exact absurd hb hg
      · exact hn h1 (X1.eqv (vis_row s l)) (YS.a R.1 S1.2.1) ap1
  by_cases hg : Good (rowS s l) (nI (256 * 0 + q1)) l.length (fun i => l.getD i 0) (n 4) (cf 8)
  rotate_left
  · refine Mw.e (hy0 hg) (Mv.y rfl (hend _ (JPe _ (fun kc ks Q hQ => cls kc ks _ 0 (Or.inr ⟨rfl, hg⟩) (fun h1 X1 g1 ap1 => ⟨fun _ => hQ h1 X1 g1, fun z => absurd rfl z⟩)))))
  refine Mw.e (hy1 hg) (Mv.no (show ¬ (1 : Int32) = 0 by decide) ?_)
  dsimp only
  have eK : mA (mA (rowS s l) 47 t ((rowS s l).2.2.2 17 1).toInt32) 48 t ((mA (rowS s l) 47 t ((rowS s l).2.2.2 17 1).toInt32).2.2.2 17 2).toInt32 = tcS (rowS s l) t (nI q1) (nI q2) := by
    rw [mA_L, rowS_17, f1, f2, z1, z2]; rfl
  rw [eK]
  have h41r : (rowS s l).2.2.1 41 t = 2 := by rw [rowS_A]; exact h41
  have wK := wr.tc ht h41r (nI q1) (nI q2)
  have h43 := (w.2.2.2.2.2.1 t ht (by rw [h41]; decide)).1
  have RnK : RXn (tcS (rowS s l) t (nI q1) (nI q2)) n cp := R.2.1
  have k44 : (tcS (rowS s l) t (nI q1) (nI q2)).2.2.2 44 = s.2.2.2 44 := by rw [(tcS_o _ _ _ _).1, (rowS_o _ _).1]
  have k45 : (tcS (rowS s l) t (nI q1) (nI q2)).2.2.2 45 = s.2.2.2 45 := by rw [(tcS_o _ _ _ _).1, (rowS_o _ _).2.1]
  have k38 : (tcS (rowS s l) t (nI q1) (nI q2)).2.2.2 38 = s.2.2.2 38 := by rw [(tcS_o _ _ _ _).1, (rowS_o _ _).2.2.2]
  have k41 : (tcS (rowS s l) t (nI q1) (nI q2)).2.2.1 41 t = 2 := by rw [(tcS_o _ _ _ _).2.1]; exact h41r
  have k43 : (tcS (rowS s l) t (nI q1) (nI q2)).2.2.1 43 = s.2.2.1 43 := by rw [(tcS_o _ _ _ _).2.2.1, rowS_A]
  have k46 : (tcS (rowS s l) t (nI q1) (nI q2)).2.2.1 46 = s.2.2.1 46 := by rw [(tcS_o _ _ _ _).2.2.2, rowS_A]
  have k47 : (tcS (rowS s l) t (nI q1) (nI q2)).2.2.1 47 t = nI q1 := tcS_47 _ _ _ _
  -- the class behind the two writes
  have cls2 : ∀ (kc ks : Nat) (Q : Hp → Prop), (∀ h2, CX E A h2 y (tcS (rowS s l) t (nI q1) (nI q2)) n cp kd fs fr cf gf → xg A h h2 → PAY h2 (y 6 t) (nI q1) kk (s.2.2.2 44 t) (s.2.2.2 45 t) (nI t) w0 a0 sl → br ((lg_cmp (s.2.2.2 44 t) (s.2.2.2 38 t)) < 0) (isO h2 (y 5 t) 9 (cK kc ks fun mc55 ms56 kc57 ks58 => m_X8_ask E (y 5 t) 0 h2 mc55 ms56 (fun h60 => Q h60))) (gR h2 (y 5 t) 9 0 fun r62 => nN r62 fun a64 => gR h2 a64 11 7 fun r65 => nN r65 fun a67 => gR h2 a67 3 3 fun r68 => gI h2 (y 5 t) 9 8 fun x70 => nN r68 fun a72 => sL E h2 1 a72 9 x70.toInt64 fun h73 => isO h73 (y 5 t) 9 (cK kc ks fun mc75 ms76 kc77 ks78 => m_X8_sendToCard E (y 5 t) 3 4 h73 mc75 ms76 (fun h80 => Q h80)))) → m_X8_takeCard E (y 5 t) (some (y 0 5)) h kc ks Q := by
    intro kc ks Q hn
    refine cls kc ks Q 1 (Or.inl ⟨rfl, hg⟩) (fun h1 X1 g1 ap1 => ⟨fun z => absurd z (by decide), fun _ => ?_⟩)
    obtain ⟨wd1, x1, -⟩ := X1.1.term ht
    have n61 : y 6 t ≠ y 5 t := n6
    refine gR_of x1 rfl (nN_of (pV_of ap1 (by show 0 < 8; decide) (pV_of (x1.ne (fun z => n6 z.symm)) (by show 10 < 14; decide) ?_)))
    obtain ⟨X2, g2⟩ := X1.tc ht h41r ap1 x1 (nI q1) (nI q2)
    have ap2 : PAY _ (y 6 t) (nI q1) kk (s.2.2.2 44 t) (s.2.2.2 45 t) (nI t) w0 a0 sl := (ap1.set (e' := .inr (6, [.int (nI q1), .int kk, .long (s.2.2.2 44 t), .long (s.2.2.2 45 t), .int (nI t), .int w0, .int a0, .long sl]))).ne (a := y 5 t) (e' := .inr (9, termL y t (y 6 t) ((rowS s l).2.2.2 37 t) ((rowS s l).2.2.2 38 t) ((rowS s l).2.2.1 40 t) ((rowS s l).2.2.2 39 t) ((rowS s l).2.2.1 43 t) ((rowS s l).2.2.1 46 t) (nI q2) ((rowS s l).2.2.1 51 t) ((rowS s l).2.2.1 41 t) wd1)) n6
    obtain ⟨wd2, x2, -⟩ := X2.1.term ht
    refine gR_of x2 rfl (nN_of (gL_of ap2 rfl (gL_of x2 rfl ?_)))
    rw [k38]
    exact hn _ X2 (g1.tr g2) ap2
  rw [k44, k38]
  refine Mv.i (fun q => Mv.bv ?_) (fun q => Mv.bv ?_)
  · have wA := wK.t49 ht 0
    have RnA : RXn (mA (tcS (rowS s l) t (nI q1) (nI q2)) 49 t 0) n cp := RnK
    have a47 : (mA (tcS (rowS s l) t (nI q1) (nI q2)) 49 t 0).2.2.1 47 t = nI q1 := (show _ = (tcS (rowS s l) t (nI q1) (nI q2)).2.2.1 47 t from by simp [mA, va_up]).trans k47
    have a43 : (mA (tcS (rowS s l) t (nI q1) (nI q2)) 49 t 0).2.2.1 43 = s.2.2.1 43 := (show _ = (tcS (rowS s l) t (nI q1) (nI q2)).2.2.1 43 from by simp [mA, va_up]).trans k43
    have a41 : (mA (tcS (rowS s l) t (nI q1) (nI q2)) 49 t 0).2.2.1 41 t = 2 := (show _ = (tcS (rowS s l) t (nI q1) (nI q2)).2.2.1 41 t from by simp [mA, va_up]).trans k41
    have a49 : (mA (tcS (rowS s l) t (nI q1) (nI q2)) 49 t 0).2.2.1 49 t = 0 := by simp [mA, va_up, upd]
    refine (J_task (E := E) (A := A) (kd := kd) (fs := fs) (fr := fr) (cf := cf) wA RnA ht (by rw [a43]; exact h43) ⟨q1, c1, a47⟩).m (fun s' hJ => Mv.r ?_)
    obtain ⟨n1, j1, j2, j3, j4⟩ := hJ
    refine ⟨n1, cp, j1, j2, j3, fun kc ks k1 k2 Q hQ => cls2 kc ks _ (fun h2 X2 g2 ap2 => ⟨fun _ => ?_, fun z => absurd q z⟩)⟩
    obtain ⟨wd2, x2, -⟩ := X2.1.term ht
    refine isO_of x2 (cK_of kc ks (Nat.le_refl _) (Nat.le_refl _) ?_)
    have XA := X2.t49 ht (Or.inl k41) 0
    have := j4 h2 y gf (nI q1) kk w0 a0 sl XA (XA.1.dj ht (by rw [a41]; decide)) (by rw [mA_L, k44, k45]; exact ap2) a47.symm (Or.inl a41) kc ks (by omega) (by omega) (fun h' => Q 1 h') (fun h9 y9 R9 hy9 g9 => hQ h9 y9 R9 hy9 (g2.tr g9))
    rw [a49] at this
    exact this
  · rw [k46]
    have wP : W2 i u (mL (tcS (rowS s l) t (nI q1) (nI q2)) 18 9 (s.2.2.1 46 t).toInt64) n := wK.eqv (vis_18 _ _ _)
    refine M_toItsCard_spec (n := n) (k := 3) (x := 4) (by omega) wP.1.2.2.1.1 (by omega) (by omega) (fun r1 s1 n1 hS => Mv.r ?_)
    rw [mL_18] at hS
    obtain ⟨G1, G2, G3, G4⟩ := hS.F (cp := cp) (by omega)
    obtain ⟨S1, S2, S3, S4, -⟩ := hS.sc
    have m0 := G4 0 (by omega) (by omega)
    have m1 := G4 1 (by omega) (by omega)
    have w1 := hS.w (by omega) wP (Or.inr (Or.inl ⟨rfl, t, ht, rfl⟩)) (Or.inl ⟨rfl, by rw [mL_A, k43]; exact h43⟩)
    refine ⟨n1, cp, w1.wt (x := 4) (by omega) (by omega) (by rw [S3 43 (by omega), mL_A, m0, k43]; exact h43) (fun _ => ⟨q1, by omega, by rw [S3 47 (by omega), mL_A, k47]⟩), G1, G2, fun kc ks k1 k2 Q hQ => cls2 kc ks _ (fun h2 X2 g2 ap2 => ⟨fun z => absurd z q, fun _ => ?_⟩)⟩
    obtain ⟨wd2, x2, -⟩ := X2.1.term ht
    obtain ⟨b1, b2, b3, go2⟩ := X2.goes
    refine gR_of x2 rfl (nN_of (gR_of X2.world rfl (nN_of (gR_of go2 rfl (gI_of x2 rfl (nN_of (sL_of X2.2.2.2 (j := 9) rfl (by omega) (by omega) ?_)))))))
    rw [k46]
    obtain ⟨X3, g3⟩ := X2.gs 9 (s.2.2.1 46 t).toInt64
    have ap3 : PAY _ (y 6 t) (nI q1) kk (s.2.2.2 44 t) (s.2.2.2 45 t) (nI t) w0 a0 sl := ap2.ne (a := y 0 8) (e' := .inl (E.1 1, 12, .inr (.inl (vp_updL gf 9 (s.2.2.1 46 t).toInt64)))) (nP_arr X2.2.2.2 _ _ ap2)
    obtain ⟨wd3, x3, -⟩ := X3.1.term ht
    refine isO_of x3 (cK_of kc ks (Nat.le_refl _) (Nat.le_refl _) ?_)
    have X4 := X3.eqv (s' := mL (tcS (rowS s l) t (nI q1) (nI q2)) 18 9 (s.2.2.1 46 t).toInt64) (vis_18 _ _ _)
    refine s_toCard (k := 3) (x := 4) X4 wP ht (by omega) (by omega) (X4.1.dj ht (by rw [mL_A, k41]; decide)) ap3 (by rw [(mL18_44 _ _ _).1, k44]) (by rw [(mL18_44 _ _ _).2.1, k45]) (fun _ => by rw [mL_A, k47]) (fun _ z => absurd rfl z) (fun z => by omega) (fun q q1 q2 hq => ?_) hS (by omega) (by omega) (fun h9 y9 R9 hy9 g9 => hQ h9 y9 R9 (hy9 0 0 (by omega) (by omega)) (g2.tr (g3.tr g9)))
    have := tg3 q q2 hq
    subst this
    rw [pk_uLs, pk_uLs]
theorem J_tpin (X : CX E A h y s n cp kd fs fr cf gf) (w : W2 i u s n) (ht : t < n 1) (h41 : s.2.2.1 41 t = 4) (f6 : s.2.2.2 17 6 = cf 6) :
    Mw (if (nI t < 0 ∨ 8 ≤ (nI t).toNatClampNeg) then none else if (lg_cmp (cf 6) 1) = 0 then (M_ask (mA s 49 t 1) (nI t)).bind fun s21 => some ((1 : Int32), s21) else (M_end s (nI t) 3).bind fun s14 => some (1, s14)) (JP E A h y n cp i u (fun kc ks Q => m_X8_takePinned E (y 5 t) (some (y 0 5)) h kc ks (fun h' => Q 1 h'))) := by
  have R := X.1
  have hn1 := R.2.1.2.1.2
  have cc : (nI t).toNatClampNeg = t := nI_clamp (by omega)
  have cb : (nI t < 0 ∨ 8 ≤ t) = False := ixF (by omega) (by omega)
  simp only [cc, cb, if_false]
  obtain ⟨wd, x, xp1, c0, kk, am, un, tt, w0, a0, sl, ap, xp2, xp3, -, -⟩ := R.term ht
  obtain ⟨rfl, rfl, rfl⟩ := xp2 (by rw [h41]; decide)
  have hc0 := xp3 (Or.inl h41)
  obtain ⟨h43, -, h47⟩ := w.2.2.2.2.2.1 t ht (by rw [h41]; decide)
  refine Mw.i (fun q => Mw.bv ?_) (fun q => ?_)
  · have wA := w.t49 ht 1
    have RnA : RXn (mA s 49 t 1) n cp := R.2.1
    have a47 : (mA s 49 t 1).2.2.1 47 = s.2.2.1 47 := by simp [mA, va_up]
    have a43 : (mA s 49 t 1).2.2.1 43 = s.2.2.1 43 := by simp [mA, va_up]
    have a41 : (mA s 49 t 1).2.2.1 41 t = 4 := by rw [← h41]; simp [mA, va_up]
    have a49 : (mA s 49 t 1).2.2.1 49 t = 1 := by simp [mA, va_up, upd]
    refine (J_task (E := E) (A := A) (kd := kd) (fs := fs) (fr := fr) (cf := cf) wA RnA ht (by rw [a43]; exact h43) (by rw [a47]; exact h47 (by rw [h41]; decide))).m (fun s' hJ => Mw.r ?_)
    obtain ⟨n1, j1, j2, j3, j4⟩ := hJ
    refine ⟨n1, cp, j1, j2, j3, fun kc ks k1 k2 Q hQ => nN_of (gR_of X.2.1 rfl (nN_of (aL_of X.2.2.1 (j := 6) rfl (by omega) (by omega) rfl ⟨fun _ => ?_, fun z => absurd q z⟩)))⟩
    refine isO_of x (cK_of kc ks (Nat.le_refl _) (Nat.le_refl _) ?_)
    have XA := X.t49 ht (Or.inr h41) 1
    have := j4 h y gf c0 kk w0 a0 sl XA (XA.1.dj ht (by rw [a41]; decide)) ap (by rw [a47]; exact hc0) (Or.inr a41) kc ks (by omega) (by omega) (fun h' => Q 1 h') (fun h9 y9 R9 hy9 g9 => hQ h9 y9 R9 hy9 g9)
    rw [a49] at this
    exact this
  · rw [M_end_eq _ (by omega)]
    refine Mw.r ⟨n, cp, w.tend ht 3, Nat.le_refl _, Nat.le_refl _, fun kc ks _ _ Q hQ => nN_of (gR_of X.2.1 rfl (nN_of (aL_of X.2.2.1 (j := 6) rfl (by omega) (by omega) rfl ⟨fun z => absurd z q, fun _ => ?_⟩)))⟩
    exact isO_of x (s_tend X ht (fun h2 X2 g2 => hQ h2 y X2.1 rfl g2))
end TCARD2
