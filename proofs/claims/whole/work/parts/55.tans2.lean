section TANS2
variable {E : Ev} {A S : Nat → Prop} {h h' : Hp} {y y' : Nat → Nat → Nat} {s s' : MS} {n cp n' cp' : Nat → Nat} {kd fs fr : Int32} {cf gf v : Nat → Int64} {i u t : Nat} {r : Int32}
theorem lg_le_n {a b : Nat} (ha : a < 2 ^ 31) (hb : b < 2 ^ 31) : lg_cmp (nI a).toInt64 (nI b).toInt64 ≤ 0 ↔ a ≤ b := by
  rw [nI_l ha, nI_l hb, lg_cmp_le]
  exact pk_lLE (by omega) (by omega)
theorem mL18_o (s : MS) (j : Nat) (v : Int64) : (mL s 18 j v).2.2.2 44 = s.2.2.2 44 ∧ (mL s 18 j v).2.2.2 45 = s.2.2.2 45 := ⟨rfl, rfl⟩
theorem fillS_44 (v2 v8 : Int64) : (fillS s t v2 v8).2.2.2 44 = s.2.2.2 44 ∧ (fillS s t v2 v8).2.2.2 45 = s.2.2.2 45 := ⟨rfl, rfl⟩
theorem tend_J {XX : Nat → Nat → (Int32 → Hp → Prop) → Prop} {sx : MS} (R : RXo E A h y s n cp) (w : W2 i u s n) (ht : t < n 1) (e : vis sx = vis s) (hX : ∀ kc ks (Q : Int32 → Hp → Prop), (∀ h1, CX E A h1 y s n cp kd fs fr cf gf → xg A h h1 → m_X8_takeAnswer_L109 E (y 5 t) h1 kc ks (fun h' => Q 1 h')) → XX kc ks Q) : Mv ((M_end sx (nI t) 3).bind fun s83 => some s83) (fun s' => JP E A h y n cp (i + 1) (u + 1) XX (1 : Int32) s') := by
  have hn1 := R.2.1.2.1.2
  rw [M_end_eq _ (by omega)]
  refine Mv.r ⟨n, cp, ((w.eqv e).tend ht 3).mono (by omega) (by omega), Nat.le_refl _, Nat.le_refl _, fun kc ks _ _ Q hQ => hX kc ks Q (fun h1 X1 g1 => ?_)⟩
  obtain ⟨wd1, x1, -⟩ := X1.1.term ht
  exact isO_of x1 (s_tend X1 ht (fun h2 X2 g2 => hQ h2 y (X2.1.eqv (vis_tend e 3)) rfl (g1.tr g2)))
theorem J_tans_h {q2 : Nat} (X : CX E A h y s n cp kd fs fr cf gf) (w : W2 i u s n) (hu : u < 2000) (ht : t < n 1) (h41 : s.2.2.1 41 t = 6) (f2 : s.2.2.2 17 2 = cf 2) (e2 : cf 2 = (nI q2).toInt64) (e7 : cf 7 = (nI 1).toInt64) :
    Mv ((M_seal (rowS (mA (fillS s t (cf 2) (cf 8)) 50 t (nI q2)) (sgL 7 ((fillS s t (cf 2) (cf 8)).2.2.2 18))) 1 (nI t).toInt64).bind fun px => (M_send (mL px.2 18 11 px.1.toInt64) 7 1 (nI t) 2 0).bind fun px69 => some (wtS px69.2 t 8)) (fun s' => JP E A h y n cp (i + 1) (u + 1) (fun kc ks Q => m_X8_takeAnswer E (y 5 t) (some (y 0 5)) h kc ks (fun h' => Q 1 h')) (1 : Int32) s') := by
  have R := X.1
  have hn1 := R.2.1.2.1.2
  have hn2 := R.2.1.2.2.1
  have hn4 : n 4 ≤ u := by have := w.1.2.2.2.2.1.2; omega
  obtain ⟨wd, x, xp1, c0, kk, am, un, tt, w0, a0, sl, ap, xp2, xp3, xp4, -⟩ := R.term ht
  obtain ⟨rfl, rfl, rfl⟩ := xp2 (by rw [h41]; decide)
  have hc0 := xp3 (Or.inr (Or.inl h41))
  have hw0 := xp4 (Or.inl h41)
  obtain ⟨h43, -, h47⟩ := w.2.2.2.2.2.1 t ht (by rw [h41]; decide)
  have h47 := h47 (by rw [h41]; decide)
  have hlE : sgL 7 ((fillS s t (cf 2) (cf 8)).2.2.2 18) = [(nI 7).toInt64, c0.toInt64, (nI q2).toInt64, s.2.2.2 44 t, s.2.2.2 45 t, (nI t).toInt64, w0.toInt64, cf 8] := by
    obtain ⟨o1, o2, o3, o4, o5, o6, o7⟩ := fillS_v (s := s) (t := t) (cf 2) (cf 8)
    unfold sgL
    rw [o1, o2, o3, o4, o5, o6, o7, e2, hc0, hw0]
  generalize hl : sgL 7 ((fillS s t (cf 2) (cf 8)).2.2.2 18) = l at hlE
  have hll : l.length = 8 := by rw [hlE]; rfl
  have wG : W2 i u (mA (fillS s t (cf 2) (cf 8)) 50 t (nI q2)) n := (w.eqv (fillS_vis _ _)).t50 ht _
  have wR : W2 i u (rowS (mA (fillS s t (cf 2) (cf 8)) 50 t (nI q2)) l) n := wG.eqv (vis_row _ _)
  refine Mv.b ?_
  obtain ⟨r3, s3, n3, cp3, e3, hS3⟩ := M_seal_row (n := n) (cp := cp) (rowS_l (mA (fillS s t (cf 2) (cf 8)) 50 t (nI q2)) l) (by omega) wR.1.2.2.2.2.1.1 (by omega) 1 (nI t).toInt64
  refine Mw.e e3 ?_
  dsimp only
  rw [show (256 : Int32) * 1 + (nI t).toInt64.toInt32 = nI (256 * 1 + t) from keyc 1 t] at hS3
  obtain ⟨F1, F2, F3, F4⟩ := hS3.F (by omega) R.2.1.2.2.2.2.2.2.2.2.2.2
  obtain ⟨S1, S2, S3, S4⟩ := hS3.sc
  have hn32 : n3 2 = n 2 := F4 2 (by omega)
  have hn39 : n3 9 = n 9 := F4 9 (by omega)
  have hn30 : n3 0 = n 0 := F4 0 (by omega)
  have hn31 : n3 1 = n 1 := F4 1 (by omega)
  have w3 := (hS3.w (by omega) (by omega) wR).eqv (s1 := mL s3 18 11 r3.toInt64) (vis_18 _ _ _)
  obtain ⟨r4, s4, n4, e4, hS4⟩ := M_send_spec (s := mL s3 18 11 r3.toInt64) (n := n3) (k := 7) (so := 1) (nu := nI t) (oso := 2) (onu := 0) (by omega) w3.1.2.2.1.1 (by omega)
  refine Mv.b (Mw.e e4 (Mv.r ?_))
  obtain ⟨G1, G2, G3, G4⟩ := hS4.F (cp := cp3) (by omega)
  obtain ⟨T1, T2, T3, T4, -⟩ := hS4.sc
  have m0 := G4 0 (by omega) (by omega)
  have m1 := G4 1 (by omega) (by omega)
  have A4 : ∀ k, 12 < k → k ≠ 50 → s4.2.2.1 k = s.2.2.1 k := by
    intro k hk h50
    rw [T3 k (by omega), mL_A, S3 k (by omega) (by omega), rowS_A]
    show va_up (fillS s t (cf 2) (cf 8)).2.2.1 50 _ k = _
    rw [va_up_ne _ _ h50, fillS_A]
  have A50 : s4.2.2.1 50 t = nI q2 := by
    rw [T3 50 (by omega), mL_A, S3 50 (by omega) (by omega), rowS_A]
    simp [mA, va_up, upd]
  have L44 : s4.2.2.2 44 = s.2.2.2 44 := by rw [T2, (mL18_o _ _ _).1, S1 44 (by omega), (rowS_o _ _).1, mA_L, (fillS_44 _ _).1]
  have L45 : s4.2.2.2 45 = s.2.2.2 45 := by rw [T2, (mL18_o _ _ _).2, S1 45 (by omega), (rowS_o _ _).2.1, mA_L, (fillS_44 _ _).2]
  have w4 := hS4.w (by omega) w3 (Or.inr (Or.inl ⟨rfl, t, by omega, rfl⟩)) (Or.inr (Or.inr ⟨rfl, rfl⟩))
  refine ⟨n4, cp3, (w4.wt (x := 8) (by omega) (by omega) (by rw [A4 43 (by omega) (by omega), m0, hn30]; exact h43) (fun _ => by rw [A4 47 (by omega) (by omega), m0, hn30]; exact h47)).mono (by omega) (Nat.le_refl _), by omega, by omega, fun kc ks k1 k2 Q hQ => ?_⟩
  refine s_ans3 (q7 := 1) X ht h41 ap hw0 e2 e7 (fun h3 X3 ap3 g3 => ⟨fun _ => ?_, fun z => absurd rfl z⟩)
  obtain ⟨wd3, x3, -⟩ := X3.1.term ht
  have d3 := X3.1.dj ht (by rw [h41]; decide)
  refine gR_of x3 rfl (isO_of x3 (cK_of kc ks (Nat.le_refl _) (Nat.le_refl _) ?_))
  have e18 : ∀ j, j ≠ 11 → (mL s3 18 11 r3.toInt64).2.2.2 18 j = (fillS s t (cf 2) (cf 8)).2.2.2 18 j := by
    intro j hj
    rw [mL_18, pk_uLn hj, S1 18 (by omega), rowS_18, mA_L]
  obtain ⟨o1, o2, o3, o4, o5, o6, o7⟩ := fillS_v (s := s) (t := t) (cf 2) (cf 8)
  refine s_toHost (k := 7) (X3.t50 ht h41 (nI q2)) ht (Or.inl rfl) ap3 (by omega) hlE ((vis_row _ _).trans (vis_m50 (fillS_vis _ _) _)) hS3 (vis_18 _ _ _) w3 hS4 (by rw [e18 1 (by omega), o1, hc0]) (by rw [e18 2 (by omega), o2, e2]) (by rw [e18 3 (by omega), o3]) (by rw [e18 4 (by omega), o4]) (by rw [e18 5 (by omega), o5]) (by rw [e18 6 (by omega), o6, hw0]) (by rw [e18 8 (by omega), o7]) (by rw [mL_18, pk_uLs]) (by omega) (by omega) (fun h5 y5 R5 hy5 pk5 _ _ _ g5 => ?_)
  have y56 : ∀ j, y5 6 j = y 6 j := fun j => hy5 6 j (by omega) (by omega) (by omega) (by omega) (by omega)
  have y55 : y5 5 t = y 5 t := hy5 5 t (by omega) (by omega) (by omega) (by omega) (by omega)
  obtain ⟨wd5, x5, -⟩ := R5.term (t := t) (by omega)
  rw [y55] at x5
  have hd5 : DJ y5 n4 s4 t (y5 6 t) := by
    obtain ⟨d1, d2, d3, d4, d5⟩ := d3
    have F3' := F4 3 (by omega)
    have F6' := F4 6 (by omega)
    have F7' := F4 7 (by omega)
    have G3' := G4 3 (by omega) (by omega)
    have G6' := G4 6 (by omega) (by omega)
    have G7' := G4 7 (by omega) (by omega)
    refine ⟨fun j hj hn => ?_, fun j hj => ?_, fun j hj => ?_, fun j hj => ?_, fun j hj hz => ?_⟩
    · rw [y56, y56]; exact d1 j (by omega) hn
    · rw [hy5 4 j (by omega) (by omega) (by omega) (by omega) (by omega), y56]; exact d2 j (by omega)
    · rw [hy5 13 j (by omega) (by omega) (by omega) (by omega) (by omega), y56]; exact d3 j (by omega)
    · rw [hy5 14 j (by omega) (by omega) (by omega) (by omega) (by omega), y56]; exact d4 j (by omega)
    · rw [hy5 16 j (by omega) (by omega) (by omega) (by omega) (by omega), y56]; exact d5 j (by omega) (by rw [← A4 55 (by omega) (by omega)]; exact hz)
  refine isO_of x5 ?_
  have := s_wait (Q := fun h70 => Q 1 h70) (kc := 0) (ks := 0) R5 (t := t) (x := 8) (by omega) (by omega) hd5 (by rw [y56]; exact pk5 _ _ ap3) (by rw [L44]) (by rw [L45]) (fun _ => by rw [A4 47 (by omega) (by omega)]; exact hc0) (fun _ _ => by rw [A4 49 (by omega) (by omega)]; exact hw0) (fun _ => A50.symm) (fun h6 R6 g6 => hQ h6 y5 R6 (hy5 0 0 (by omega) (by omega) (by omega) (by omega) (by omega)) (g3.tr (g5.tr g6)))
  rw [y55] at this
  exact this
end TANS2
