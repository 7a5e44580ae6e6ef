/-! the host takes REQUEST -/
section HOST
variable {E : Ev} {A S : Nat → Prop} {h h' : Hp} {y y' : Nat → Nat → Nat} {s s' s1 : MS} {n cp n' cp' : Nat → Nat} {kd fs fr : Int32} {cf gf v : Nat → Int64} {i u c : Nat} {r : Int32}
theorem t64_le {a b : Int32} : a.toInt64 ≤ b.toInt64 ↔ a ≤ b := by
  rw [Int64.le_iff_toInt_le, Int32.le_iff_toInt_le, Int32.toInt_toInt64, Int32.toInt_toInt64]
theorem mA_17 (s : MS) (k j : Nat) (v : Int32) : (mA s k j v).2.2.2 17 = s.2.2.2 17 := rfl
theorem vis_m26 {s1 : MS} (e : vis s1 = vis s) (c : Nat) (v : Int32) : vis (mA s1 26 c v) = vis (mA s 26 c v) := by
  have h1 : ∀ z : MS, vis (mA z 26 c v) = vis (mA (unvis (vis z)) 26 c v) := fun _ => rfl
  rw [h1 s1, h1 s, e]
theorem debS_17 {m : Nat → Nat} (cc k t ww a : Int32) (am un : Int64) : (debS s m cc k am un t ww a).2.2.2 17 = s.2.2.2 17 := rfl
theorem vis_dm {s1 : MS} (e : vis s1 = vis s) (m : Nat → Nat) (c : Nat) (v : Int32) (z : Int64) (cc k t ww a : Int32) (am un : Int64) : vis (debS (mL (mA s1 26 c v) 25 c z) m cc k am un t ww a) = vis (debS (mL (mA s 26 c v) 25 c z) m cc k am un t ww a) := by
  have h1 : ∀ q : MS, vis (debS (mL (mA q 26 c v) 25 c z) m cc k am un t ww a) = vis (debS (mL (mA (unvis (vis q)) 26 c v) 25 c z) m cc k am un t ww a) := fun _ => rfl
  rw [h1 s1, h1 s, e]
theorem vis_d25 {s1 : MS} (e : vis s1 = vis s) (m : Nat → Nat) (c : Nat) (z : Int64) (cc k t ww a : Int32) (am un : Int64) : vis (debS (mL s1 25 c z) m cc k am un t ww a) = vis (debS (mL s 25 c z) m cc k am un t ww a) := by
  have h1 : ∀ q : MS, vis (debS (mL q 25 c z) m cc k am un t ww a) = vis (debS (mL (unvis (vis q)) 25 c z) m cc k am un t ww a) := fun _ => rfl
  rw [h1 s1, h1 s, e]
theorem RXn.deb (Rn : RXn s n cp) (h3 : n 3 < 512) (hc : ∀ j, va_up cp 18 (alC (n 3) (cp 18)) j ≤ 8192) (cc k t ww a : Int32) (am un : Int64) : RXn (debS s n cc k am un t ww a) (va_up n 3 (n 3 + 1)) (va_up cp 18 (alC (n 3) (cp 18))) := by
  obtain ⟨r0, r1, r2, r3, r4, r5, r6, r7, r8, r9, r10⟩ := Rn
  exact ⟨r0, r1, r2, rfl, r4, r5, r6, r7, r8, ⟨by show n 3 + 1 ≤ 512; omega, r9.2⟩, hc⟩
theorem J_req {q1 q2 q5 q6 : Nat} (X : CX E A h y s n cp 7 fs fr cf gf) (w : W2 i u s n) (hi : i < 512) (hu : u < 1998) (f1 : s.2.2.2 17 1 = cf 1) (f2 : s.2.2.2 17 2 = cf 2) (f3 : s.2.2.2 17 3 = cf 3) (f4 : s.2.2.2 17 4 = cf 4) (f5 : s.2.2.2 17 5 = cf 5) (f6 : s.2.2.2 17 6 = cf 6) (f8 : s.2.2.2 17 8 = cf 8) (f11 : s.2.2.2 17 11 = cf 11)
    (hq1 : q1 < 256) (e1 : cf 1 = (nI q1).toInt64) (hq2 : q2 < 65536) (e2 : cf 2 = (nI q2).toInt64) (hq5 : q5 < 65536) (e5 : cf 5 = (nI q5).toInt64) (e6 : cf 6 = (nI q6).toInt64) :
    Mw (M_toHost_L12 s 7) (fun r s' => (r = 0 ∨ r = 1) ∧ JP E A h y n cp (i + 1) (u + 2) (fun kc ks Q => m_X3_takesRequest E (y 0 2) (some (y 0 5)) h kc ks Q) r s') := by
  have R := X.1
  have hn0 := R.2.1.1.2
  have hn3 : n 3 ≤ i := w.1.2.2.2.1.2
  have hcp := R.2.1.2.2.2.2.2.2.2.2.2.2
  unfold M_toHost_L12
  refine Mw.b ?_
  have hlS : sgL 7 (s.2.2.2 17) = [(nI 7).toInt64, (nI q1).toInt64, (nI q2).toInt64, cf 3, cf 4, (nI q5).toInt64, (nI q6).toInt64, cf 8] := by
    unfold sgL
    rw [f1, f2, f3, f4, f5, f6, f8, e1, e2, e5, e6]
  have hv0 : vis (rowS s (sgL 7 (s.2.2.2 17))) = vis s := vis_row _ _
  -- the class, up to the end of isFromTerminal
  have pre : ∀ (kc ks : Nat) (Q : Int32 → Hp → Prop), 1 ≤ kc → 8 ≤ ks → (q5 < n 1 → Good (rowS s (sgL 7 (s.2.2.2 17))) (nI (256 * 1 + q5)) 8 (fun i => (sgL 7 (s.2.2.2 17)).getD i 0) (n 4) (cf 11) → ∀ h2 p, CX E A h2 y s n cp 7 fs fr cf gf → PAY h2 p (nI q1) (nI q2) (cf 3) (cf 4) (nI q5) (nI q6) 1 (cf 8) → A p → (∀ t', t' < n 1 → p ≠ y 6 t') → xg A h h2 → cK (kc - 1) (ks - 8) fun mc13 ms14 kc15 ks16 => m_X3_wordFor E (y 0 2) (some p) h2 mc13 ms14 (fun x17 h18 => reqT E (y 0 2) p x17 h18 kc15 ks16 Q)) → (¬ (q5 < n 1 ∧ Good (rowS s (sgL 7 (s.2.2.2 17))) (nI (256 * 1 + q5)) 8 (fun i => (sgL 7 (s.2.2.2 17)).getD i 0) (n 4) (cf 11)) → ∀ h2, CX E A h2 y s n cp 7 fs fr cf gf → xg A h h2 → Q 0 h2) → m_X3_takesRequest E (y 0 2) (some (y 0 5)) h kc ks Q := by
    intro kc ks Q k1 k2 p1 p0
    refine cK_of 1 8 k1 k2 (s_payOf (ans := 1) X e1 e2 e5 e6 (Nat.le_refl _) (Nat.le_refl _) (fun h1 p X1 ap hA hne g1 => isO_of X1.host (s_isFrom (k := 7) X1 ap hq5 hlS hv0 (fun z1 z2 h2 X2 ap2 g2 => ⟨fun z => absurd z (by decide), fun _ => isO_of X2.host (p1 z1 z2 h2 p X2 ap2 hA hne (g1.tr g2))⟩) (fun z h2 X2 g2 => ⟨fun _ => p0 z h2 X2 (g1.tr g2), fun z => absurd rfl z⟩))))
  refine M_isSigned_spec (k := 7) (cf := cf) w (by omega) (f5.trans e5) hq5 f11 (fun c5 hg => ?_) (fun hno => ?_)
  rotate_left
  · dsimp only [lt1]
    refine Mw.y rfl (Mw.r ⟨Or.inl rfl, n, cp, (w.eqv hv0).mono (by omega) (by omega), Nat.le_refl _, Nat.le_refl _, fun kc ks k1 k2 Q hQ => pre kc ks Q (by omega) (by omega) (fun a b => absurd ⟨a, b⟩ hno) (fun _ h2 X2 g2 => hQ h2 y (X2.1.eqv hv0) rfl g2)⟩)
  dsimp only [lt1]
  refine Mw.no (by decide) (Mw.no (by decide) (Mw.b ?_))
  have g17 : (rowS s (sgL 7 (s.2.2.2 17))).2.2.2 17 = s.2.2.2 17 := rowS_17 _ _
  have w4 := w.eqv hv0
  generalize hs4 : rowS s (sgL 7 (s.2.2.2 17)) = s4 at hv0 hg g17 w4 pre ⊢
  have hlA : anL 1 (s4.2.2.2 17) = [6, (1 : Int32).toInt64, cf 3, cf 4, (nI q5).toInt64, (nI q2).toInt64, (nI q6).toInt64] := by
    unfold anL
    rw [g17, f3, f4, f5, f2, f6, e5, e2, e6]
  have hv8 : vis (rowS s4 (anL 1 (s4.2.2.2 17))) = vis s := (vis_row _ _).trans hv0
  have g8 : (rowS s4 (anL 1 (s4.2.2.2 17))).2.2.2 17 = s.2.2.2 17 := (rowS_17 _ _).trans g17
  -- word 0 at state s8 = anything seen as s
  have zero : ∀ sz nz hz, vis sz = vis nz → sz.2.2.2 17 = s.2.2.2 17 → W2 i u sz n → RXn sz n cp → (∀ (kc ks : Nat) (Q : Int32 → Hp → Prop), 1 ≤ kc → 8 ≤ ks → (∀ h3 p, CX E A h3 y nz n cp 7 fs fr cf gf → PAY h3 p (nI q1) (nI q2) (cf 3) (cf 4) (nI q5) (nI q6) 1 (cf 8) → xg A h h3 → reqT E (y 0 2) p 0 h3 (kc - 1) (ks - 8) Q) → m_X3_takesRequest E (y 0 2) (some (y 0 5)) h kc ks Q) → hz = (0 : Int32) → Mw (M_toHost_L209 sz hz) (fun r s' => (r = 0 ∨ r = 1) ∧ JP E A h y n cp (i + 1) (u + 2) (fun kc ks Q => m_X3_takesRequest E (y 0 2) (some (y 0 5)) h kc ks Q) r s') := by
    intro sz nz hz hvz h17 wz Rnz cls hz0
    subst hz0
    unfold M_toHost_L209
    refine Mw.y rfl ?_
    refine (J_word (E := E) (A := A) (kd := 7) (fs := fs) (fr := fr) (cf := cf) (wd := 0) (q1 := q1) (q2 := q2) (q5 := q5) i64_0 Rnz wz (by omega) (by rw [h17, f1, e1]) (by rw [h17, f2, e2]) (by rw [h17, f3]) (by rw [h17, f5, e5]) hq1 c5).m (fun r s' hJ => ?_)
    obtain ⟨rfl, n1, cp1, j1, j2, j3, j4⟩ := hJ
    refine ⟨Or.inr rfl, n1, cp1, j1.mono (by omega) (by omega), j2, j3, fun kc ks k1 k2 Q hQ => cls kc ks Q (by omega) (by omega) (fun h3 p X3 ap3 g3 => ?_)⟩
    exact j4 h3 y gf p _ _ _ _ (X3.eqv hvz) ap3 (kc - 1) (ks - 8) (by omega) (by omega) Q (fun h' y' R' hy g' => hQ h' y' R' hy (g3.tr g'))
  have Rn8 : RXn (rowS s4 (anL 1 (s4.2.2.2 17))) n cp := (R.eqv hv8).2.1
  have w8 := w.eqv hv8
  refine M_isAnswer_spec (cf := cf) (q1 := q1) w4 (by omega) (by rw [g17, f1, e1]) (by omega) (by rw [g17, f8]) (fun c1 hga => ?_) (fun hno => ?_)
  rotate_left
  · unfold M_toHost_L146 M_toHost_L147
    refine Mw.y rfl (Mw.y rfl (zero _ s 0 hv8 g8 w8 Rn8 (fun kc ks Q k1 k2 hn => pre kc ks Q k1 k2 (fun _ _ h2 p X2 ap2 hA hne g2 => ?_) (fun z => absurd ⟨c5, hg⟩ z)) rfl))
    refine cK_of 0 0 (by omega) (by omega) (isO_of X2.host (s_isAns X2 ap2 (by omega) hlA hv8 (fun a b => absurd ⟨a, b⟩ hno) (fun _ h3 X3 ap3 g3 => ⟨fun _ => hn h3 p X3 ap3 (g2.tr g3), fun z => absurd rfl z⟩)))
  generalize hs8 : rowS s4 (anL 1 (s4.2.2.2 17)) = s8 at hv8 g8 Rn8 w8 hga ⊢
  refine Mw.no (show ¬ (1 : Int32) = 0 by decide) (Mw.n (by decide) (Mw.n (by decide) ?_))
  dsimp only
  rw [tC1, tC2, g8, f1, f2, e1, Int32.toInt32_toInt64]
  refine Mw.n (nI_in (by omega) (by omega)) ?_
  rw [nI_clamp (by omega)]
  have k26 : s8.2.2.1 26 = s.2.2.1 26 := by
    have := congrArg (fun t : TV => (unvis t).2.2.1 26) hv8
    exact this
  have k25 : s8.2.2.2 25 = s.2.2.2 25 := by
    have := congrArg (fun t : TV => (unvis t).2.2.2 25) hv8
    exact this
  rw [k26]
  -- the class up to the account
  have pre2 : ∀ (kc ks mc ms : Nat) (Q : Int32 → Hp → Prop), 1 ≤ kc → 8 ≤ ks → mc ≤ kc - 1 → ms ≤ ks - 8 → (∀ h3 p, CX E A h3 y s n cp 7 fs fr cf gf → PAY h3 p (nI q1) (nI q2) (cf 3) (cf 4) (nI q5) (nI q6) 1 (cf 8) → A p → (∀ t', t' < n 1 → p ≠ y 6 t') → xg A h h3 → br (s.2.2.1 26 q1 < nI q2) (gI h3 p 6 1 fun x22 => pV h3 (y 9 q1) 1 1 (.int x22) fun h24 => gL h24 (y 9 q1) 1 0 fun y26 => gL h24 p 6 2 fun y28 => br (0 ≤ (lg_cmp y26 y28)) (isO h24 (y 0 2) 4 (cK mc ms fun mc31 ms32 kc33 ks34 => m_X3_take E (y 0 2) (some (y 9 q1)) (some p) h24 mc31 ms32 (fun h36 => reqT E (y 0 2) p 1 h36 (kc - 1 - mc) (ks - 8 - ms) Q))) (reqT E (y 0 2) p 0 h24 (kc - 1 - mc) (ks - 8 - ms) Q)) (reqT E (y 0 2) p 0 h3 (kc - 1 - mc) (ks - 8 - ms) Q)) → m_X3_takesRequest E (y 0 2) (some (y 0 5)) h kc ks Q := by
    intro kc ks mc ms Q k1 k2 k3 k4 hn
    refine pre kc ks Q k1 k2 (fun _ _ h2 p X2 ap2 hA hne g2 => cK_of mc ms k3 k4 (isO_of X2.host (s_isAns X2 ap2 (by omega) hlA hv8 (fun _ _ h3 X3 ap3 g3 => ⟨fun z => absurd z (by decide), fun _ => ?_⟩) (fun z => absurd ⟨c1, hga⟩ z)))) (fun z => absurd ⟨c5, hg⟩ z)
    have l5 := X3.1.2.2.2.1.2.2.2.2.2.1
    have ac := X3.account c1
    exact gR_of X3.host rfl (nN_of (gI_of ap3 rfl (nN_of (l5.isO (s_get l5 (by omega) c1 (nN_of (isO_of ac (gI_of ap3 rfl (gI_of ac rfl (hn h3 p X3 ap3 hA hne (g2.tr g3)))))))))))
  have lle : lg_cmp (cf 2) (s.2.2.1 26 q1).toInt64 ≤ 0 ↔ ¬ s.2.2.1 26 q1 < nI q2 := by rw [lg_cmp_le, e2, t64_le]; exact Int32.not_lt.symm
  refine Mw.i (fun a1 => ?_) (fun a1 => ?_)
  · unfold M_toHost_L146 M_toHost_L147
    refine Mw.y rfl (zero _ s 0 hv8 g8 w8 Rn8 (fun kc ks Q k1 k2 hn => pre2 kc ks 0 0 Q k1 k2 (by omega) (by omega) (fun h3 p X3 ap3 _ _ g3 => ⟨fun z => absurd z (lle.mp a1), fun _ => hn h3 p X3 ap3 g3⟩)) rfl)
  have a1' : s.2.2.1 26 q1 < nI q2 := by
    refine Classical.byContradiction (fun z => a1 (lle.mpr z))
  unfold M_toHost_L147
  refine Mw.no (by decide) (Mw.n (by decide) (Mw.n (by decide) ?_))
  rw [tC1, tC2, g8, f1, f2, e1, e2, Int32.toInt32_toInt64, Int32.toInt32_toInt64]
  refine Mw.n (nI_in (by omega) (by omega)) ?_
  dsimp only [lt1]
  refine Mw.n (nI_in (by omega) (by omega)) (Mw.n (by decide) ?_)
  rw [nI_clamp (by omega), tC3, mA_L, g8, f3, k25]
  have w25 := w8.acc2 c1 (nI q2)
  have g25 : (mA s8 26 q1 (nI q2)).2.2.2 17 = s.2.2.2 17 := (mA_17 _ _ _ _).trans g8
  have Rn25 : RXn (mA s8 26 q1 (nI q2)) n cp := Rn8
  -- the class behind the account's new counter
  have accw : ∀ h3, CX E A h3 y s n cp 7 fs fr cf gf → CX E A (xh_set h3 (y 9 q1) (.inr (1, [.long (s.2.2.2 25 q1), .int (nI q2)]))) y (mA s 26 q1 (nI q2)) n cp 7 fs fr cf gf ∧ xg A h3 (xh_set h3 (y 9 q1) (.inr (1, [.long (s.2.2.2 25 q1), .int (nI q2)]))) := by
    intro h3 X3
    exact X3.acc (s' := mA s 26 q1 (nI q2)) (x25 := s.2.2.2 25 q1) (x26 := nI q2) c1 (xg.set rfl) (by simp [cdv, mA, va_up, upd]) (X3.account c1).set rfl rfl (fun j hj => by simp [cdv, mA, va_up, upd, hj])
  refine Mw.i (fun a2 => ?_) (fun a2 => ?_)
  · unfold M_toHost_L199
    refine Mw.y rfl (zero _ (mA s 26 q1 (nI q2)) 0 (vis_m26 hv8 _ _) g25 w25 Rn25 (fun kc ks Q k1 k2 hn => pre2 kc ks 0 0 Q k1 k2 (by omega) (by omega) (fun h3 p X3 ap3 _ _ g3 => ⟨fun _ => ?_, fun z => absurd a1' z⟩)) rfl)
    have ac := X3.account c1
    have np : p ≠ y 9 q1 := nP_obj ac (by decide) _ _ ap3
    obtain ⟨X4, g4⟩ := accw h3 X3
    refine gI_of ap3 rfl (pV_of ac (by show 1 < 2; decide) (gL_of ac.set rfl (gL_of (ap3.ne np) rfl ⟨fun z => absurd a2 (Int32.not_lt.mpr z), fun _ => ?_⟩)))
    exact hn _ p X4 (ap3.ne np) (g3.tr g4)
  · unfold M_toHost_L199
    refine Mw.no (by decide) (Mw.bv ?_)
    have hgF := grow_F (n := n) (cp := cp) (j0 := 18) (m := n 3) (by omega) (by omega) hcp (by omega) (cp10 R (by omega) (by omega))
    rw [M_debit_eq (cf := cf) (n := n) (q1 := q1) (q2 := q2) (q5 := q5) (q6 := q6) (by rw [g25, f1, e1]) (by rw [g25, f2, e2]) (by rw [g25, f3]) (by rw [g25, f4]) (by rw [g25, f5, e5]) (by rw [g25, f6, e6]) (by omega) Rn25.2.2.2.1 (by omega)]
    refine Mv.r ?_
    unfold M_toHost_L209
    refine Mw.no (by decide) ?_
    have k25' : (mA s8 26 q1 (nI q2)).2.2.2 25 q1 = s.2.2.2 25 q1 := by rw [mA_L, k25]
    rw [k25']
    have hvD : vis (debS (mL (mA s8 26 q1 (nI q2)) 25 q1 (s.2.2.2 25 q1 - cf 3)) n (nI q1) (nI q2) (cf 3) (cf 4) (nI q5) (nI q6) 1) = vis (debS (mL (mA s 26 q1 (nI q2)) 25 q1 (s.2.2.2 25 q1 - cf 3)) n (nI q1) (nI q2) (cf 3) (cf 4) (nI q5) (nI q6) 1) := vis_dm hv8 _ _ _ _ _ _ _ _ _ _ _
    have wD := (w25.acc1 c1 (s.2.2.2 25 q1 - cf 3)).deb (nI q1) (nI q2) (nI q5) (nI q6) 1 (cf 3) (cf 4)
    have RnD : RXn (debS (mL (mA s8 26 q1 (nI q2)) 25 q1 (s.2.2.2 25 q1 - cf 3)) n (nI q1) (nI q2) (cf 3) (cf 4) (nI q5) (nI q6) 1) (va_up n 3 (n 3 + 1)) (va_up cp 18 (alC (n 3) (cp 18))) := RXn.deb (s := mL (mA s8 26 q1 (nI q2)) 25 q1 (s.2.2.2 25 q1 - cf 3)) Rn25 (by omega) hgF.2 _ _ _ _ _ _ _
    have g17D : (debS (mL (mA s8 26 q1 (nI q2)) 25 q1 (s.2.2.2 25 q1 - cf 3)) n (nI q1) (nI q2) (cf 3) (cf 4) (nI q5) (nI q6) 1).2.2.2 17 = s.2.2.2 17 := by rw [debS_17, mL25_17, g25]
    generalize (debS (mL (mA s8 26 q1 (nI q2)) 25 q1 (s.2.2.2 25 q1 - cf 3)) n (nI q1) (nI q2) (cf 3) (cf 4) (nI q5) (nI q6) 1) = sD at hvD wD RnD g17D ⊢
    refine (J_word (E := E) (A := A) (kd := 7) (fs := fs) (fr := fr) (cf := cf) (wd := 1) (q1 := q1) (q2 := q2) (q5 := q5) i64_1 RnD wD (by omega) (by rw [g17D, f1, e1]) (by rw [g17D, f2, e2]) (by rw [g17D, f3]) (by rw [g17D, f5, e5]) hq1 c5).m (fun r s' hJ => ?_)
    obtain ⟨rfl, n1, cp1, j1, j2, j3, j4⟩ := hJ
    have eF1 : Fc (va_up n 3 (n 3 + 1)) = Fc n := rfl
    have eF2 : Fs (va_up n 3 (n 3 + 1)) (va_up cp 18 (alC (n 3) (cp 18))) = Fs n (va_up cp 18 (alC (n 3) (cp 18))) := rfl
    rw [eF1] at j2 j4
    rw [eF2] at j3 j4
    have gg := hgF.1
    refine ⟨Or.inr rfl, n1, cp1, j1, j2, by omega, fun kc ks k1 k2 Q hQ => pre2 kc ks 1 (if n 3 = cp 18 then al_cap (cp 18) else 0) Q (by omega) (by omega) (by omega) (by omega) (fun h3 p X3 ap3 hA hne g3 => ⟨fun _ => ?_, fun z => absurd a1' z⟩)⟩
    have ac := X3.account c1
    have np : p ≠ y 9 q1 := nP_obj ac (by decide) _ _ ap3
    obtain ⟨X4, g4⟩ := accw h3 X3
    refine gI_of ap3 rfl (pV_of ac (by show 1 < 2; decide) (gL_of ac.set rfl (gL_of (ap3.ne np) rfl ⟨fun _ => ?_, fun z => absurd (Int32.not_lt.mp a2) z⟩)))
    have ho := X4.host
    refine isO_of ho (cK_of 1 (if n 3 = cp 18 then al_cap (cp 18) else 0) (Nat.le_refl _) (Nat.le_refl _) (s_take X4 c1 (by omega) (ap3.ne np) hA hne (Nat.le_refl _) (Nat.le_refl _) (fun h5 y5 X5 ap5 hy5 g5 => ?_)))
    have := j4 h5 y5 gf p _ _ _ _ (X5.eqv hvD) ap5 (kc - 1 - 1) (ks - 8 - (if n 3 = cp 18 then al_cap (cp 18) else 0)) (by omega) (by omega) Q (fun h' y' R' hy g' => hQ h' y' R' (hy.trans (hy5 0 0 (by omega) (by omega))) (g3.tr (g4.tr (g5.tr g'))))
    rw [hy5 0 2 (by omega) (by omega)] at this
    exact this
end HOST
