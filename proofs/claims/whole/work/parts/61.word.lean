/-! the host's word -/
section WORD
variable {E : Ev} {A S : Nat → Prop} {h h' : Hp} {y y' : Nat → Nat → Nat} {s s' s1 : MS} {n cp n' cp' : Nat → Nat} {kd fs fr : Int32} {cf gf v : Nat → Int64} {i u c : Nat} {r : Int32}
def morS (s : MS) (m : Nat) (v : Int64) : MS := mI (mL s 4 m v) 5 (nI (m + 1))
theorem vis_mor (s : MS) (m : Nat) (v : Int64) : vis (morS s m v) = vis s := rfl
theorem morS_18 (s : MS) (m : Nat) (v : Int64) : (morS s m v).2.2.2 18 = s.2.2.2 18 := rfl
theorem morS_17 (s : MS) (m : Nat) (v : Int64) : (morS s m v).2.2.2 17 = s.2.2.2 17 := rfl
theorem M_more_row {l : List Int64} (hl : rowl s l) (h12 : l.length < 12) (v : Int64) : M_more s v = some (morS s l.length v) := by
  unfold M_more
  rw [hl.1, if_neg (nI_in h12 (by omega)), nI_clamp (by omega)]
  dsimp only [lt1]
  rw [mL_I, hl.1, nI_1]
  rfl
theorem morS_l {l : List Int64} (hl : rowl s l) (v : Int64) : rowl (morS s l.length v) (l ++ [v]) := by
  refine ⟨by rw [List.length_append]; rfl, fun i hi => ?_⟩
  rw [List.length_append, List.length_singleton] at hi
  show vp_updL (s.2.2.2 4) l.length v i = _
  by_cases e : i = l.length
  · subst e
    rw [pk_uLs, List.getD_eq_getElem?_getD, List.getElem?_append_right (Nat.le_refl _)]
    simp
  · rw [pk_uLn e, hl.2 i (by omega), List.getD_eq_getElem?_getD, List.getD_eq_getElem?_getD, List.getElem?_append_left (by omega)]
theorem SealR.rl {key : Int32} {rs : Nat} {g : Nat → Int64} {l : List Int64} (hS : SealR s key rs g n cp r s' n' cp') (hl : rowl s l) : rowl s' l := by
  obtain ⟨S1, S2, -, -⟩ := hS.sc
  exact ⟨by rw [S2 5 (by omega)]; exact hl.1, fun i hi => by rw [S1 4 (by omega)]; exact hl.2 i hi⟩
def reqT (E : Ev) (a0 p : Nat) (x17 : Int32) (h18 : Hp) (kc15 ks16 : Nat) (Q : Int32 → Hp → Prop) : Prop := gR h18 a0 4 0 fun r20 =>
 nN r20 fun a22 => gR h18 a22 11 7 fun r23 =>
 nN r23 fun a25 => gR h18 a25 3 3 fun r26 =>
 nN (some p) fun a28 => gI h18 a28 6 0 fun x29 =>
 nN r26 fun a31 => sL E h18 1 a31 1 x29.toInt64 fun h32 =>
 gR h32 a0 4 0 fun r34 =>
 nN r34 fun a36 => gR h32 a36 11 7 fun r37 =>
 nN r37 fun a39 => gR h32 a39 3 3 fun r40 =>
 gI h32 a28 6 1 fun x42 =>
 nN r40 fun a44 => sL E h32 1 a44 2 x42.toInt64 fun h45 =>
 gR h45 a0 4 0 fun r47 =>
 nN r47 fun a49 => gR h45 a49 11 7 fun r50 =>
 nN r50 fun a52 => gR h45 a52 3 3 fun r53 =>
 gR h45 a0 4 0 fun r55 =>
 nN r55 fun a57 => gR h45 a57 11 1 fun r58 =>
 gI h45 a28 6 0 fun x60 =>
 gI h45 a28 6 1 fun x62 =>
 nN r58 fun a66 => isO h45 a66 8 (m_X7_ofWordToCard E a66 x60 x62 x17 h45 0 0 (fun r64 h65 =>
 nN r64 fun a74 => isO h65 a74 8 (cK kc15 ks16 fun mc68 ms69 kc70 ks71 => m_X7_seal E a74 h65 mc68 ms69 (fun y72 h73 =>
 nN r53 fun a76 => sL E h73 1 a76 8 y72 fun h77 =>
 gR h77 a0 4 0 fun r79 =>
 nN r79 fun a81 => gR h77 a81 11 7 fun r82 =>
 nN r82 fun a84 => gR h77 a84 3 3 fun r85 =>
 nN r85 fun a87 => sL E h77 1 a87 10 x17.toInt64 fun h88 =>
 gR h88 a0 4 0 fun r90 =>
 nN r90 fun a92 => gR h88 a92 11 7 fun r93 =>
 nN r93 fun a95 => gR h88 a95 3 3 fun r96 =>
 gR h88 a0 4 0 fun r98 =>
 nN r98 fun a100 => gR h88 a100 11 1 fun r101 =>
 nN r101 fun a105 => isO h88 a105 8 (m_X7_ofWordToTerminal E a105 (some a28) x17 h88 0 0 (fun r103 h104 =>
 nN r103 fun a113 => isO h104 a113 8 (cK kc70 ks71 fun mc107 ms108 kc109 ks110 => m_X7_seal E a113 h104 mc107 ms108 (fun y111 h112 =>
 nN r96 fun a115 => sL E h112 1 a115 11 y111 fun h116 =>
 gR h116 a0 4 0 fun r118 =>
 gI h116 a28 6 4 fun x120 =>
 nN r118 fun a128 => isO h116 a128 11 (cK kc109 ks110 fun mc122 ms123 kc124 ks125 => m_X10_send E a128 8 2 0 1 x120 h116 mc122 ms123 (fun x126 h127 =>
 Q 1 h127))))))))))
theorem tg8 : ∀ t, t ≤ 11 → hasK 8 t = true → t = 1 ∨ t = 2 ∨ t = 8 ∨ t = 10 ∨ t = 11 := by decide +kernel
theorem J_word {q1 q2 q5 : Nat} {wd : Int32} {w0 : Int64} (hw : wd.toInt64 = w0) (Rn : RXn s n cp) (w : W2 i u s n) (hu : u < 2000) (f1 : s.2.2.2 17 1 = (nI q1).toInt64) (f2 : s.2.2.2 17 2 = (nI q2).toInt64) (f3 : s.2.2.2 17 3 = cf 3) (f5 : s.2.2.2 17 5 = (nI q5).toInt64) (hq1 : q1 < 256) (hq5 : q5 < n 1) :
    Mw (M_toHost_L218 s w0) (fun r s' => r = 1 ∧ ∃ n' cp', W2 i (u + 2) s' n' ∧ Fc n' ≤ Fc n ∧ Fs n' cp' ≤ Fs n cp ∧ ∀ h y gf p un w a sl, CX E A h y s n cp kd fs fr cf gf → PAY h p (nI q1) (nI q2) (cf 3) un (nI q5) w a sl → ∀ kc ks, Fc n ≤ kc + Fc n' → Fs n cp ≤ ks + Fs n' cp' → ∀ Q : Int32 → Hp → Prop, (∀ h' y', RXo E A h' y' s' n' cp' → y' 0 0 = y 0 0 → xg A h h' → Q 1 h') → reqT E (y 0 2) p wd h kc ks Q) := by
  have hn1 := Rn.2.1.2
  have hn2 := Rn.2.2.1
  have hn4 : n 4 ≤ u := by have := w.1.2.2.2.2.1.2; omega
  unfold M_toHost_L218
  dsimp only [lt1]
  simp only [tC1, tC2, tC3, tC5, tC8, tC10, tC11, tB1, tB2, tB3, tB5, tB8, tB10, tB11, if_false, mL18_17, f1, f2]
  refine Mw.begb ?_
  simp only [rowS_17, mL18_17, f1]
  refine Mw.moreb (by simp) ?_
  simp only [rowS_17, mL18_17, f2]
  refine Mw.moreb (by simp) (Mw.moreb (by simp) ?_)
  simp only [rowS_17, mL18_17, f1, List.cons_append, List.nil_append]
  have hA18 : (mL (mL s 18 1 (nI q1).toInt64) 18 2 (nI q2).toInt64).2.2.2 18 = vp_updL (vp_updL (s.2.2.2 18) 1 (nI q1).toInt64) 2 (nI q2).toInt64 := by rw [mL_18, mL_18]
  have hA17 : (mL (mL s 18 1 (nI q1).toInt64) 18 2 (nI q2).toInt64).2.2.2 17 = s.2.2.2 17 := by rw [mL18_17, mL18_17]
  have hAv : vis (mL (mL s 18 1 (nI q1).toInt64) 18 2 (nI q2).toInt64) = vis s := by rw [vis_18, vis_18]
  generalize (mL (mL s 18 1 (nI q1).toInt64) 18 2 (nI q2).toInt64) = sA at hA18 hA17 hAv ⊢
  have hl0 : rowl (rowS sA [8, (nI q1).toInt64, (nI q2).toInt64, w0]) [8, (nI q1).toInt64, (nI q2).toInt64, w0] := rowS_l sA _
  have R18 : (rowS sA [8, (nI q1).toInt64, (nI q2).toInt64, w0]).2.2.2 18 = sA.2.2.2 18 := rowS_18 _ _
  have R17 : (rowS sA [8, (nI q1).toInt64, (nI q2).toInt64, w0]).2.2.2 17 = sA.2.2.2 17 := rowS_17 _ _
  have hRv : vis (rowS sA [8, (nI q1).toInt64, (nI q2).toInt64, w0]) = vis s := (vis_row _ _).trans hAv
  generalize (rowS sA [8, (nI q1).toInt64, (nI q2).toInt64, w0]) = sR at hl0 R18 R17 hRv ⊢
  have wR : W2 i u sR n := w.eqv hRv
  refine Mw.b ?_
  obtain ⟨r1, t1, n1, cp1, e1, hS1⟩ := M_seal_row (n := n) (cp := cp) hl0 (by simp) wR.1.2.2.2.2.1.1 (by omega) 2 (nI q1).toInt64
  refine Mw.e e1 ?_
  rw [show (256 : Int32) * 2 + (nI q1).toInt64.toInt32 = nI (256 * 2 + q1) from keyc 2 q1] at hS1
  obtain ⟨F1, F2, F3, F4⟩ := hS1.F (by omega) Rn.2.2.2.2.2.2.2.2.2.2
  obtain ⟨S1, S2, S3, S4⟩ := hS1.sc
  have w1 := hS1.w (by simp) (by omega) wR
  have hl1 := hS1.rl hl0
  dsimp only
  have m17 : t1.2.2.2 17 = s.2.2.2 17 := by rw [S1 17 (by omega), R17, hA17]
  rw [m17, f3, M_more_row (rowl_18 hl1 8 r1.toInt64) (by simp), Option.bind_some, morS_17, mL18_17, m17, f5]
  have hlD : rowl (mL (morS (mL t1 18 8 r1.toInt64) [8, (nI q1).toInt64, (nI q2).toInt64, w0].length (cf 3)) 18 10 w0) [8, (nI q1).toInt64, (nI q2).toInt64, w0, cf 3] := rowl_18 (morS_l (rowl_18 hl1 8 r1.toInt64) (cf 3)) 10 w0
  have D18 : (mL (morS (mL t1 18 8 r1.toInt64) [8, (nI q1).toInt64, (nI q2).toInt64, w0].length (cf 3)) 18 10 w0).2.2.2 18 = vp_updL (vp_updL (sA.2.2.2 18) 8 r1.toInt64) 10 w0 := by rw [mL_18, morS_18, mL_18, S1 18 (by omega), R18]
  have D17 : (mL (morS (mL t1 18 8 r1.toInt64) [8, (nI q1).toInt64, (nI q2).toInt64, w0].length (cf 3)) 18 10 w0).2.2.2 17 = s.2.2.2 17 := by rw [mL18_17, morS_17, mL18_17, m17]
  have hDv : vis (mL (morS (mL t1 18 8 r1.toInt64) [8, (nI q1).toInt64, (nI q2).toInt64, w0].length (cf 3)) 18 10 w0) = vis t1 := by rw [vis_18, vis_mor, vis_18]
  generalize (mL (morS (mL t1 18 8 r1.toInt64) [8, (nI q1).toInt64, (nI q2).toInt64, w0].length (cf 3)) 18 10 w0) = sD at hlD D18 D17 hDv ⊢
  have wD : W2 i (u + 1) sD n1 := w1.eqv hDv
  have hn32 : n1 2 = n 2 := F4 2 (by omega)
  have hn39 : n1 9 = n 9 := F4 9 (by omega)
  have hn30 : n1 0 = n 0 := F4 0 (by omega)
  have hn31 : n1 1 = n 1 := F4 1 (by omega)
  have hn14 : n1 4 ≤ u + 1 := by have := wD.1.2.2.2.2.1.2; omega
  have hcp1 : ∀ j, cp1 j ≤ 8192 := by
    rcases hS1 with ⟨_, _, _, _, _, _, _, rfl⟩ | ⟨_, _, _, _, rfl⟩
    · exact Rn.2.2.2.2.2.2.2.2.2.2
    · intro j
      by_cases z : j = 16
      · subst z
        rw [va_up_self]
        have := Rn.2.2.2.2.2.2.2.2.2.2 16
        unfold al_cap
        split
        · split <;> omega
        · omega
      · rw [va_up_ne _ _ z]; exact Rn.2.2.2.2.2.2.2.2.2.2 j
  refine Mw.b ?_
  obtain ⟨r2, t2, n2, cp2, e2, hS2⟩ := M_seal_row (n := n1) (cp := cp1) hlD (by simp) wD.1.2.2.2.2.1.1 (by omega) 1 (nI q5).toInt64
  refine Mw.e e2 ?_
  rw [show (256 : Int32) * 1 + (nI q5).toInt64.toInt32 = nI (256 * 1 + q5) from keyc 1 q5] at hS2
  obtain ⟨H1, H2, H3, H4⟩ := hS2.F (by omega) hcp1
  obtain ⟨T1, T2, T3, T4⟩ := hS2.sc
  have w2 := hS2.w (by simp) (by omega) wD
  dsimp only
  have wE : W2 i (u + 2) (mL t2 18 11 r2.toInt64) n2 := w2.eqv (vis_18 _ _ _)
  have E17 : t2.2.2.2 17 = s.2.2.2 17 := by rw [T1 17 (by omega), D17]
  rw [E17, f5, Int32.toInt32_toInt64]
  have E18 : (mL t2 18 11 r2.toInt64).2.2.2 18 = vp_updL (vp_updL (vp_updL (vp_updL (vp_updL (s.2.2.2 18) 1 (nI q1).toInt64) 2 (nI q2).toInt64) 8 r1.toInt64) 10 w0) 11 r2.toInt64 := by rw [mL_18, T1 18 (by omega), D18, hA18]
  have hEv : vis (mL t2 18 11 r2.toInt64) = vis t2 := vis_18 _ _ _
  generalize (mL t2 18 11 r2.toInt64) = sE at wE E18 hEv ⊢
  have hn22 : n2 2 = n1 2 := H4 2 (by omega)
  have hn29 : n2 9 = n1 9 := H4 9 (by omega)
  have hn20 : n2 0 = n1 0 := H4 0 (by omega)
  have hn21 : n2 1 = n1 1 := H4 1 (by omega)
  refine Mw.b ?_
  obtain ⟨r3, t3, n3, e3, hS3⟩ := M_send_spec (s := sE) (n := n2) (k := 8) (so := 2) (nu := 0) (oso := 1) (onu := nI q5) (by omega) wE.1.2.2.1.1 (by omega)
  rw [E18] at hS3
  refine Mw.e e3 (Mw.r ⟨rfl, ?_⟩)
  obtain ⟨G1, G2, G3, G4⟩ := hS3.F (cp := cp2) (by omega)
  refine ⟨n3, cp2, hS3.w (by omega) wE (Or.inr (Or.inr ⟨rfl, rfl⟩)) (Or.inr (Or.inl ⟨rfl, q5, by omega, rfl⟩)), by omega, by omega, fun h y gf p un w a sl X ap kc ks k1 k2 Q hQ => ?_⟩
  obtain ⟨b1, b2, b3, go⟩ := X.goes
  refine gR_of X.host rfl (nN_of (gR_of X.world rfl (nN_of (gR_of go rfl (nN_of (gI_of ap rfl (nN_of (sL_of X.2.2.2 (j := 1) rfl (by omega) (by omega) ?_))))))))
  obtain ⟨X1, g1⟩ := X.gs 1 (nI q1).toInt64
  have a1 := X.g1 ap 1 (nI q1).toInt64
  obtain ⟨b1, b2, b3, go⟩ := X1.goes
  refine gR_of X1.host rfl (nN_of (gR_of X1.world rfl (nN_of (gR_of go rfl (gI_of a1 rfl (nN_of (sL_of X1.2.2.2 (j := 2) rfl (by omega) (by omega) ?_)))))))
  obtain ⟨X2, g2⟩ := X1.gs 2 (nI q2).toInt64
  have a2 := X1.g1 a1 2 (nI q2).toInt64
  obtain ⟨b1, b2, b3, go⟩ := X2.goes
  obtain ⟨-, -, -, -, -, ⟨u0, u1, u2, f5'⟩, -⟩ := id X2.1.2.2.1
  refine gR_of X2.host rfl (nN_of (gR_of X2.world rfl (nN_of (gR_of go rfl (gR_of X2.host rfl (nN_of (gR_of X2.world rfl (gI_of a2 rfl (gI_of a2 rfl (nN_of (isO_of f5' (s_ofWordToCard X2.1 (fun h3 S3' => ?_)))))))))))))
  have X3 : CX E A h3 y s n cp kd fs fr cf _ := X2.ys S3'.1 S3'.2.1 ⟨by unfold rowP; omega, by unfold rowP; omega, by unfold rowP; omega⟩ (fun _ => rfl)
  have a3 := X2.1.pay S3'.2.1 a2
  have S4' := S3'.re (s' := sR) (l' := [8, (nI q1).toInt64, (nI q2).toInt64, w0]) hRv (by rw [hw])
  have X4 := X3.eqv (s' := sR) hRv
  obtain ⟨-, -, -, -, -, ⟨u0, u1, u2, f5'⟩, -⟩ := id X4.1.2.2.1
  refine nN_of (isO_of f5' (cK_of (Fc n - Fc n1) (Fs n cp - Fs n1 cp1) (by omega) (by omega) (s_seal S4' (by omega) (by omega) (by simp) (by omega) hS1 (by omega) (by omega) (fun h5 y5 R5 g5 hy5 => ?_))))
  have yy5 : ∀ j, y5 0 j = y 0 j := fun j => hy5 0 j (by omega) (by omega) (by omega)
  have X5 : CX E A h5 y5 t1 n1 cp1 kd fs fr cf _ := X4.ys R5 g5 ⟨by unfold sealP; omega, by unfold sealP; omega, by unfold sealP; omega⟩ yy5
  have a5 := X4.1.pay g5 a3
  have q8 := X5.2.2.2
  rw [yy5 8] at q8
  refine nN_of (sL_of q8 (j := 8) rfl (by omega) (by omega) ?_)
  obtain ⟨X6, g6⟩ := X5.gs 8 r1.toInt64
  have a6 := X5.g1 a5 8 r1.toInt64
  rw [yy5 8] at X6 g6 a6
  have ho6 := X6.host
  have wo6 := X6.world
  obtain ⟨b1, b2, b3, go⟩ := X6.goes
  have q8 := X6.2.2.2
  rw [yy5 2, yy5 1, yy5 17, yy5 18] at ho6
  rw [yy5 1, yy5 3, yy5 4, yy5 12, yy5 13, yy5 14, yy5 15, yy5 5, yy5 6] at wo6
  rw [yy5 6, yy5 8] at go
  rw [yy5 8] at q8
  refine gR_of ho6 rfl (nN_of (gR_of wo6 rfl (nN_of (gR_of go rfl (nN_of (sL_of q8 (j := 10) rfl (by omega) (by omega) ?_))))))
  obtain ⟨X7, g7⟩ := X6.gs 10 wd.toInt64
  have a7 := X6.g1 a6 10 wd.toInt64
  rw [yy5 8] at X7 g7 a7
  have ho7 := X7.host
  have wo7 := X7.world
  obtain ⟨b1, b2, b3, go⟩ := X7.goes
  obtain ⟨-, -, -, -, -, ⟨u0, u1, u2, f5'⟩, -⟩ := id X7.1.2.2.1
  rw [yy5 2, yy5 1, yy5 17, yy5 18] at ho7
  rw [yy5 1, yy5 3, yy5 4, yy5 12, yy5 13, yy5 14, yy5 15, yy5 5, yy5 6] at wo7
  rw [yy5 6, yy5 8] at go
  rw [yy5 4] at f5'
  refine gR_of ho7 rfl (nN_of (gR_of wo7 rfl (nN_of (gR_of go rfl (gR_of ho7 rfl (nN_of (gR_of wo7 rfl (nN_of (isO_of f5' ?_)))))))))
  have oT := s_ofWordToTerminal (wd := wd) (kc := 0) (ks := 0) (Q := fun r103 h104 => nN r103 fun a113 => isO h104 a113 8 (cK (kc - (Fc n - Fc n1)) (ks - (Fs n cp - Fs n1 cp1)) fun mc107 ms108 kc109 ks110 => m_X7_seal E a113 h104 mc107 ms108 (fun y111 h112 => nN (some (y 0 8)) fun a115 => sL E h112 1 a115 11 y111 fun h116 => gR h116 (y 0 2) 4 0 fun r118 => gI h116 p 6 4 fun x120 => nN r118 fun a128 => isO h116 a128 11 (cK kc109 ks110 fun mc122 ms123 kc124 ks125 => m_X10_send E a128 8 2 0 1 x120 h116 mc122 ms123 (fun x126 h127 => Q 1 h127))))) X7.1 a7 (fun h8 S8 => ?_)
  · rw [yy5 4] at oT; exact oT
  have X8 : CX E A h8 y5 t1 n1 cp1 kd fs fr cf _ := X7.ys S8.1 S8.2.1 ⟨by unfold rowP; omega, by unfold rowP; omega, by unfold rowP; omega⟩ (fun _ => rfl)
  have a8 := X7.1.pay S8.2.1 a7
  have S9 := S8.re (s' := sD) (l' := [8, (nI q1).toInt64, (nI q2).toInt64, w0, cf 3]) hDv (by rw [hw])
  have X9 := X8.eqv (s' := sD) hDv
  obtain ⟨-, -, -, -, -, ⟨u0, u1, u2, f5'⟩, -⟩ := id X9.1.2.2.1
  refine nN_of (isO_of f5' (cK_of (Fc n1 - Fc n2) (Fs n1 cp1 - Fs n2 cp2) (by omega) (by omega) (s_seal S9 (by omega) (by omega) (by simp) (by omega) hS2 (by omega) (by omega) (fun h10 y10 R10 g10 hy10 => ?_))))
  have yy : ∀ j, y10 0 j = y 0 j := fun j => (hy10 0 j (by omega) (by omega) (by omega)).trans (yy5 j)
  have X10 : CX E A h10 y10 t2 n2 cp2 kd fs fr cf _ := X9.ys R10 g10 ⟨by unfold sealP; omega, by unfold sealP; omega, by unfold sealP; omega⟩ (fun j => hy10 0 j (by omega) (by omega) (by omega))
  have a10 := X9.1.pay g10 a8
  have q8 := X10.2.2.2
  rw [yy 8] at q8
  refine nN_of (sL_of q8 (j := 11) rfl (by omega) (by omega) ?_)
  obtain ⟨X11, g11⟩ := X10.gs 11 r2.toInt64
  have a11 := X10.g1 a10 11 r2.toInt64
  rw [yy 8] at X11 g11 a11
  have ho := X11.host
  have wo := X11.world
  rw [yy 2, yy 1, yy 17, yy 18] at ho
  rw [yy 1, yy 3, yy 4, yy 12, yy 13, yy 14, yy 15, yy 5, yy 6] at wo
  refine gR_of ho rfl (gI_of a11 rfl (nN_of (isO_of wo (cK_of (Fc n2 - Fc n3) (Fs n2 cp2 - Fs n3 cp2) (by omega) (by omega) ?_))))
  have X12 := X11.eqv (s' := sE) hEv
  have := s_snd (k := 8) (kc := Fc n2 - Fc n3) (ks := Fs n2 cp2 - Fs n3 cp2) (Q := fun x126 h127 => Q 1 h127) X12.1 wE.sz (by omega) X12.2.2.2 (fun q q1' q2' hq => ?_) hS3 (by omega) (by omega) (fun h13 y13 R13 g13 hy13 => hQ h13 y13 R13 ((hy13 0 0 (by omega) (by omega)).trans (yy 0)) (g1.tr (g2.tr ((YS.a X2.1.1 S3'.2.1).tr ((YS.a X4.1.1 g5).tr (g6.tr (g7.tr ((YS.a X7.1.1 S8.2.1).tr ((YS.a X9.1.1 g10).tr (g11.tr (YS.a X12.1.1 g13)))))))))))
  · rw [yy 1] at this; exact this
  · rcases tg8 q q2' hq with rfl | rfl | rfl | rfl | rfl
    · simp [vp_updL]
    · simp [vp_updL]
    · simp [vp_updL]
    · rw [← hw]; simp [vp_updL]
    · simp [vp_updL]
end WORD
