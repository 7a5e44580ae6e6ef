/-! the words of which a method's picture is made: reads, writes, branches, calls -/
def gI (h : Hp) (a ci k : Nat) (P : Int32 → Prop) : Prop := ∃ fs x, xh_at h a (.inr (ci, fs)) ∧ fs[k]? = some (.int x) ∧ P x
def gL (h : Hp) (a ci k : Nat) (P : Int64 → Prop) : Prop := ∃ fs x, xh_at h a (.inr (ci, fs)) ∧ fs[k]? = some (.long x) ∧ P x
def gR (h : Hp) (a ci k : Nat) (P : Option Nat → Prop) : Prop := ∃ fs r, xh_at h a (.inr (ci, fs)) ∧ fs[k]? = some (va_rf r) ∧ P r
def pV (h : Hp) (a ci k : Nat) (v : Value) (P : Hp → Prop) : Prop := ∃ fs, xh_at h a (.inr (ci, fs)) ∧ k < fs.length ∧ ∃ h1, h1 = xh_set h a (.inr (ci, fs.set k v)) ∧ P h1
def nN (r : Option Nat) (P : Nat → Prop) : Prop := ∃ a, r = some a ∧ P a
def br (c A B : Prop) : Prop := (c → A) ∧ (¬ c → B)
def brN (r : Option Nat) (A : Prop) (B : Nat → Prop) : Prop := (r = none → A) ∧ (∀ a, r = some a → B a)
def isO (h : Hp) (a ci : Nat) (P : Prop) : Prop := (∃ fs, xh_at h a (.inr (ci, fs))) ∧ P
def isA (E : Ev) (h : Hp) (t a : Nat) (P : Prop) : Prop := (∃ x, xh_at h a (.inl (E.1 t, x))) ∧ P
def inO (h : Hp) (a : Nat) (P : Prop) : Prop := xo_at h a ∧ P
def cK (kc ks : Nat) (P : Nat → Nat → Nat → Nat → Prop) : Prop := ∃ mc ms kc1 ks1, kc = mc + kc1 ∧ ks = ms + ks1 ∧ P mc ms kc1 ks1
def nO (h : Hp) (kc ks ci N : Nat) (fs : List Value) (P : Nat → Hp → Nat → Nat → Prop) : Prop := ∃ kc1 ks1, kc = 1 + kc1 ∧ ks = N + ks1 ∧ ∀ q h1, q ∉ h.1 → h1 = xh_new h q (.inr (ci, fs)) → P q h1 kc1 ks1
def nA (E : Ev) (h : Hp) (kc ks : Nat) (t sz : Nat) (n : Int32) (mk : Nat → vp_A) (P : Nat → Hp → Nat → Nat → Prop) : Prop := ∃ N kc1 ks1, ¬ n < 0 ∧ n.toNatClampNeg = N ∧ N * sz ≤ 536870912 ∧ kc = 1 + kc1 ∧ ks = N + ks1 ∧ ∀ q h1, q ∉ h.1 → h1 = xh_new h q (.inl (E.1 t, mk N)) → P q h1 kc1 ks1
def clL (E : Ev) (h : Hp) (kc ks : Nat) (t a : Nat) (P : Nat → Hp → Nat → Nat → Prop) : Prop := ∃ n f kc1 ks1, xh_at h a (.inl (E.1 t, n, .inr (.inl f))) ∧ kc = 1 + kc1 ∧ ks = n + ks1 ∧ ∀ q h1, q ∉ h.1 → h1 = xh_new h q (.inl (E.1 t, n, .inr (.inl f))) → P q h1 kc1 ks1
def aN (E : Ev) (h : Hp) (a : Nat) (P : Int32 → Prop) : Prop := ∃ x, xa_len E h a x ∧ P x
def aI (E : Ev) (h : Hp) (t a : Nat) (i : Int32) (P : Int32 → Prop) : Prop := ∃ n f x, xh_at h a (.inl (E.1 t, n, .inl f)) ∧ vp_in i n ∧ f i.toNatClampNeg = x ∧ P x
def aL (E : Ev) (h : Hp) (t a : Nat) (i : Int32) (P : Int64 → Prop) : Prop := ∃ n f x, xh_at h a (.inl (E.1 t, n, .inr (.inl f))) ∧ vp_in i n ∧ f i.toNatClampNeg = x ∧ P x
def aR (E : Ev) (h : Hp) (t a : Nat) (i : Int32) (P : Option Nat → Prop) : Prop := ∃ n f x, xh_at h a (.inl (E.1 t, n, .inr (.inr (.inr (.inr f))))) ∧ vp_in i n ∧ f i.toNatClampNeg = x ∧ P x
def sI (E : Ev) (h : Hp) (t a : Nat) (i x : Int32) (P : Hp → Prop) : Prop := ∃ n f, xh_at h a (.inl (E.1 t, n, .inl f)) ∧ vp_in i n ∧ ∃ h1, h1 = xh_set h a (.inl (E.1 t, n, .inl (upd f i.toNatClampNeg x))) ∧ P h1
def sZ (E : Ev) (h : Hp) (t a : Nat) (i x : Int32) (P : Hp → Prop) : Prop := ∃ n f, xh_at h a (.inl (E.1 t, n, .inl f)) ∧ vp_in i n ∧ ∃ h1, h1 = xh_set h a (.inl (E.1 t, n, .inl (upd f i.toNatClampNeg (vp_nar .boolean x)))) ∧ P h1
def sL (E : Ev) (h : Hp) (t a : Nat) (i : Int32) (x : Int64) (P : Hp → Prop) : Prop := ∃ n f, xh_at h a (.inl (E.1 t, n, .inr (.inl f))) ∧ vp_in i n ∧ ∃ h1, h1 = xh_set h a (.inl (E.1 t, n, .inr (.inl (vp_updL f i.toNatClampNeg x)))) ∧ P h1
def sR (E : Ev) (h : Hp) (t a : Nat) (i : Int32) (r : Option Nat) (P : Hp → Prop) : Prop := ∃ n f, xh_at h a (.inl (E.1 t, n, .inr (.inr (.inr (.inr f))))) ∧ vp_in i n ∧ ∃ h1, h1 = xh_set h a (.inl (E.1 t, n, .inr (.inr (.inr (.inr (va_up f i.toNatClampNeg r)))))) ∧ P h1
def rI (i : Nat) (j : Int32) (P : Int32 → Prop) : Prop := ∃ N f x, xs_ro[i]? = some (i, .int, N, f) ∧ vp_in j N ∧ f j.toNatClampNeg = .int x ∧ P x
def m_X0_init (E : Ev) (a0 : Nat) (yp1 : Int64) (h : Hp) (kc ks : Nat) (Q : Hp → Prop) : Prop := pV h a0 1 0 (.long yp1) fun h3 =>
  Q h3
def m_X5_init (E : Ev) (a0 : Nat) (h : Hp) (kc ks : Nat) (Q : Hp → Prop) : Prop := Q h
def m_X1_init (E : Ev) (a0 : Nat) (rp1 : Option Nat) (xp2 : Int32) (xp3 : Int32) (yp4 : Int64) (xp6 : Int32) (h : Hp) (kc ks : Nat) (Q : Hp → Prop) : Prop := pV h a0 2 6 (.int 3) fun h3 =>
  pV h3 a0 2 9 (.int (-1)) fun h5 =>
  nO h5 kc ks 6 8 [.int 0, .int 0, .long 0, .long 0, .int 0, .int 0, .int 0, .long 0] fun a7 h8 kc9 ks10 =>
  m_X5_init E a7 h8 0 0 (fun h13 =>
 pV h13 a0 2 11 (.ref a7) fun h15 =>
 pV h15 a0 2 0 (va_rf rp1) fun h17 =>
 pV h17 a0 2 1 (.int xp2) fun h19 =>
 pV h19 a0 2 2 (.int xp3) fun h21 =>
 pV h21 a0 2 3 (.long yp4) fun h23 =>
 pV h23 a0 2 4 (.int xp6) fun h25 =>
 Q h25)
def m_X1_losesPower (E : Ev) (a0 : Nat) (h : Hp) (kc ks : Nat) (Q : Int32 → Hp → Prop) : Prop := gI h a0 2 9 fun x2 =>
  br (x2 = (-1)) (Q 0 h) (gI h a0 2 9 fun x5 =>
  pV h a0 2 9 (.int (x5 - 1)) fun h7 =>
  gI h7 a0 2 9 fun x9 =>
  br (x9 = (-1)) (pV h7 a0 2 8 (.int 0) fun h12 =>
  pV h12 a0 2 10 (.int 0) fun h14 =>
  nO h14 kc ks 6 8 [.int 0, .int 0, .long 0, .long 0, .int 0, .int 0, .int 0, .long 0] fun a16 h17 kc18 ks19 =>
  m_X5_init E a16 h17 0 0 (fun h22 =>
 pV h22 a0 2 11 (.ref a16) fun h24 =>
 Q 1 h24)) (Q 0 h7))
def m_X7_key (E : Ev) (a0 : Nat) (xp1 : Int32) (xp2 : Int32) (h : Hp) (kc ks : Nat) (Q : Option Nat → Hp → Prop) : Prop := pV h a0 8 3 (.int xp1) fun h2 =>
  pV h2 a0 8 4 (.int xp2) fun h4 =>
  pV h4 a0 8 2 (.int 0) fun h6 =>
  Q (some a0) h6
def m_X7_with (E : Ev) (a0 : Nat) (yp1 : Int64) (h : Hp) (kc ks : Nat) (Q : Option Nat → Hp → Prop) : Prop := gI h a0 8 2 fun x2 =>
  br (8 ≤ x2) (Q (some a0) h) (gR h a0 8 1 fun r5 =>
  gI h a0 8 2 fun x7 =>
  nN r5 fun a9 => sL E h 1 a9 x7 yp1 fun h10 =>
  gI h10 a0 8 2 fun x12 =>
  pV h10 a0 8 2 (.int (x12 + 1)) fun h14 =>
  Q (some a0) h14)
def m_X7_ofCard (E : Ev) (a0 : Nat) (xp1 : Int32) (xp2 : Int32) (yp3 : Int64) (h : Hp) (kc ks : Nat) (Q : Option Nat → Hp → Prop) : Prop := isO h a0 8 (m_X7_key E a0 0 xp1 h 0 0 (fun r2 h3 =>
 nN r2 fun a7 => isO h3 a7 8 (m_X7_with E a7 2 h3 0 0 (fun r5 h6 =>
 nN r5 fun a11 => isO h6 a11 8 (m_X7_with E a11 xp1.toInt64 h6 0 0 (fun r9 h10 =>
 nN r9 fun a15 => isO h10 a15 8 (m_X7_with E a15 xp2.toInt64 h10 0 0 (fun r13 h14 =>
 nN r13 fun a19 => isO h14 a19 8 (m_X7_with E a19 yp3 h14 0 0 (fun r17 h18 =>
 Q r17 h18))))))))))
def m_Jx4a65c_size_8abf5 (E : Ev) (a0 : Nat) (h : Hp) (kc ks : Nat) (Q : Int32 → Hp → Prop) : Prop := gI h a0 0 2 fun x2 =>
  Q x2 h
def m_J3_checkIndex_8e157_L9 (E : Ev) (xv0 : Int32) (xv1 : Int32) (rv2 : Option Nat) (h : Hp) (kc ks : Nat) (Q : Int32 → Hp → Prop) : Prop := False
def m_J3_checkIndex_8e157 (E : Ev) (xp0 : Int32) (xp1 : Int32) (rp2 : Option Nat) (h : Hp) (kc ks : Nat) (Q : Int32 → Hp → Prop) : Prop := br (xp0 < 0) (m_J3_checkIndex_8e157_L9 E xp0 xp1 rp2 h kc ks Q) (br (xp0 < xp1) (Q xp0 h) (m_J3_checkIndex_8e157_L9 E xp0 xp1 rp2 h kc ks Q))
def m_J15_checkIndex_7cf53 (E : Ev) (xp0 : Int32) (xp1 : Int32) (h : Hp) (kc ks : Nat) (Q : Int32 → Hp → Prop) : Prop := m_J3_checkIndex_8e157 E xp0 xp1 none h 0 0 (fun x2 h3 =>
 Q x2 h3)
def m_Jx4a65c_elementData_915e3 (E : Ev) (a0 : Nat) (xp1 : Int32) (h : Hp) (kc ks : Nat) (Q : Option Nat → Hp → Prop) : Prop := gR h a0 0 1 fun r2 =>
  nN r2 fun a4 => aR E h 4 a4 xp1 fun r5 =>
  Q r5 h
def m_Jx4a65c_get_915e3 (E : Ev) (a0 : Nat) (xp1 : Int32) (h : Hp) (kc ks : Nat) (Q : Option Nat → Hp → Prop) : Prop := gI h a0 0 2 fun x2 =>
  m_J15_checkIndex_7cf53 E xp1 x2 h 0 0 (fun x4 h5 =>
 isO h5 a0 0 (m_Jx4a65c_elementData_915e3 E a0 xp1 h5 0 0 (fun r7 h8 =>
 Q r7 h8)))
def m_X7_isTheirs_L38 (n : Nat) (E : Ev) (a0 : Nat) (rv1 : Option Nat) (xv2 : Int32) (h : Hp) (kc ks : Nat) (Q : Int32 → Hp → Prop) : Prop := match n with
  | 0 => False
  | n + 1 => gI h a0 8 2 fun x22 =>
  br (x22 ≤ xv2) (Q 1 h) (nN rv1 fun a25 => gR h a25 7 2 fun r26 =>
  nN r26 fun a28 => aL E h 1 a28 xv2 fun y29 =>
  gR h a0 8 1 fun r31 =>
  nN r31 fun a33 => aL E h 1 a33 xv2 fun y34 =>
  br ((lg_cmp y29 y34) = 0) (m_X7_isTheirs_L38 n E a0 (some a25) (xv2 + 1) h kc ks Q) (Q 0 h))
def m_X7_isTheirs (E : Ev) (a0 : Nat) (rp1 : Option Nat) (h : Hp) (kc ks : Nat) (Q : Int32 → Hp → Prop) : Prop := nN rp1 fun a2 => gI h a2 7 0 fun x3 =>
  gI h a0 8 3 fun x5 =>
  br (x3 = x5) (gI h a2 7 1 fun x8 =>
  gI h a0 8 4 fun x10 =>
  br (x8 = x10) (gR h a2 7 2 fun r13 =>
  nN r13 fun a15 => aN E h a15 fun x16 =>
  gI h a0 8 2 fun x18 =>
  br (x16 = x18) (∃ n20, m_X7_isTheirs_L38 n20 E a0 (some a2) 0 h kc ks Q) (Q 0 h)) (Q 0 h)) (Q 0 h)
def m_J7_copyOf_c38d5 (E : Ev) (rp0 : Option Nat) (xp1 : Int32) (h : Hp) (kc ks : Nat) (Q : Option Nat → Hp → Prop) : Prop := nN rp0 fun a2 => aN E h a2 fun x3 =>
  br (xp1 = x3) (clL E h kc ks 1 a2 fun a18 h19 kc20 ks21 =>
  isA E h19 1 a18 (Q (some a18) h19)) (nA E h kc ks 1 8 xp1 (fun N => (N, .inr (.inl (fun _ => 0)))) fun a6 h7 kc8 ks9 =>
  aN E h7 a2 fun x11 =>
  ∀ x13 : Int32, x13 = (if xp1 < x11 then xp1 else x11) → cpL E h7 1 a2 a6 0 0 x13 fun h16 =>
  Q (some a6) h16)
def m_X6_init (E : Ev) (a0 : Nat) (xp1 : Int32) (xp2 : Int32) (rp3 : Option Nat) (h : Hp) (kc ks : Nat) (Q : Hp → Prop) : Prop := pV h a0 7 0 (.int xp1) fun h3 =>
  pV h3 a0 7 1 (.int xp2) fun h5 =>
  pV h5 a0 7 2 (va_rf rp3) fun h7 =>
  Q h7
def m_J8_newLength_cabcc_L21 (E : Ev) (xv0 : Int32) (xv1 : Int32) (h : Hp) (kc ks : Nat) (Q : Int32 → Hp → Prop) : Prop := False
def m_J8_newLength_cabcc (E : Ev) (xp0 : Int32) (xp1 : Int32) (xp2 : Int32) (h : Hp) (kc ks : Nat) (Q : Int32 → Hp → Prop) : Prop := ∀ x2 : Int32, x2 = (if xp1 < xp2 then xp2 else xp1) → br ((xp0 + x2) ≤ (0 : Int32)) (m_J8_newLength_cabcc_L21 E xp0 xp1 h kc ks Q) (br (2147483639 < (xp0 + x2)) (m_J8_newLength_cabcc_L21 E xp0 xp1 h kc ks Q) (Q (xp0 + x2) h))
def m_J7_copyOf_6403c_L24 (E : Ev) (rv0 : Option Nat) (xv1 : Int32) (s0 : Option Nat) (h : Hp) (kc ks : Nat) (Q : Option Nat → Hp → Prop) : Prop := nN rv0 fun a9 => aN E h a9 fun x10 =>
  ∀ x12 : Int32, x12 = (if xv1 < x10 then xv1 else x10) → nN s0 fun a15 => cpR E h 4 a9 a15 0 0 x12 fun h16 =>
  Q (some a15) h16
def m_J7_copyOf_6403c (E : Ev) (rp0 : Option Nat) (xp1 : Int32) (rp2 : Option Nat) (h : Hp) (kc ks : Nat) (Q : Option Nat → Hp → Prop) : Prop := br (rp2 = (some (E.2.2 0))) (nA E h kc ks 4 4 xp1 (fun N => (N, .inr (.inr (.inr (.inr (fun _ => none)))))) fun a4 h5 kc6 ks7 =>
  m_J7_copyOf_6403c_L24 E rp0 xp1 (some a4) h5 kc6 ks7 Q) (False)
def m_J7_copyOf_1904c (E : Ev) (rp0 : Option Nat) (xp1 : Int32) (h : Hp) (kc ks : Nat) (Q : Option Nat → Hp → Prop) : Prop := nN rp0 fun a2 => isA E h 4 a2 (cK kc ks fun mc4 ms5 kc6 ks7 => m_J7_copyOf_6403c E (some a2) xp1 (some (E.2.2 0)) h mc4 ms5 (fun r8 h9 =>
 Q r8 h9))
def m_Jx4a65c_grow_92f84_L20 (E : Ev) (a0 : Nat) (xv1 : Int32) (xv2 : Int32) (h : Hp) (kc ks : Nat) (Q : Option Nat → Hp → Prop) : Prop := m_J8_newLength_cabcc E xv2 (xv1 - xv2) (xv2 >>> ((1 : Int32) &&& 31)) h 0 0 (fun x22 h23 =>
 gR h23 a0 0 1 fun r25 =>
 cK kc ks fun mc27 ms28 kc29 ks30 => m_J7_copyOf_1904c E r25 x22 h23 mc27 ms28 (fun r31 h32 =>
 pV h32 a0 0 1 (va_rf r31) fun h34 =>
 Q r31 h34))
def m_Jx4a65c_grow_92f84 (E : Ev) (a0 : Nat) (xp1 : Int32) (h : Hp) (kc ks : Nat) (Q : Option Nat → Hp → Prop) : Prop := gR h a0 0 1 fun r2 =>
  nN r2 fun a4 => aN E h a4 fun x5 =>
  br (0 < x5) (m_Jx4a65c_grow_92f84_L20 E a0 xp1 x5 h kc ks Q) (gR h a0 0 1 fun r8 =>
  br (r8 = (some (E.2.1 2))) (∀ x12 : Int32, x12 = (if (10 : Int32) < xp1 then xp1 else 10) → nA E h kc ks 4 4 x12 (fun N => (N, .inr (.inr (.inr (.inr (fun _ => none)))))) fun a15 h16 kc17 ks18 =>
  pV h16 a0 0 1 (.ref a15) fun h20 =>
  Q (some a15) h20) (m_Jx4a65c_grow_92f84_L20 E a0 xp1 x5 h kc ks Q))
def m_Jx4a65c_grow_d5877 (E : Ev) (a0 : Nat) (h : Hp) (kc ks : Nat) (Q : Option Nat → Hp → Prop) : Prop := gI h a0 0 2 fun x2 =>
  isO h a0 0 (cK kc ks fun mc4 ms5 kc6 ks7 => m_Jx4a65c_grow_92f84 E a0 (x2 + 1) h mc4 ms5 (fun r8 h9 =>
 Q r8 h9))
def m_Jx4a65c_add_72be8_L11 (E : Ev) (a0 : Nat) (rv1 : Option Nat) (rv2 : Option Nat) (xv3 : Int32) (h : Hp) (kc ks : Nat) (Q : Hp → Prop) : Prop := nN rv1 fun a13 => nN rv2 fun a14 => inO h a13 (sR E h 4 a14 xv3 (some a13) fun h15 =>
  pV h15 a0 0 2 (.int (xv3 + 1)) fun h17 =>
  Q h17)
def m_Jx4a65c_add_72be8 (E : Ev) (a0 : Nat) (rp1 : Option Nat) (rp2 : Option Nat) (xp3 : Int32) (h : Hp) (kc ks : Nat) (Q : Hp → Prop) : Prop := nN rp2 fun a2 => aN E h a2 fun x3 =>
  br (xp3 = x3) (isO h a0 0 (cK kc ks fun mc6 ms7 kc8 ks9 => m_Jx4a65c_grow_d5877 E a0 h mc6 ms7 (fun r10 h11 =>
 m_Jx4a65c_add_72be8_L11 E a0 rp1 r10 xp3 h11 kc8 ks9 Q))) (m_Jx4a65c_add_72be8_L11 E a0 rp1 (some a2) xp3 h kc ks Q)
def m_Jx4a65c_add_9ea2d (E : Ev) (a0 : Nat) (rp1 : Option Nat) (h : Hp) (kc ks : Nat) (Q : Int32 → Hp → Prop) : Prop := gI h a0 0 0 fun x2 =>
  pV h a0 0 0 (.int (x2 + 1)) fun h4 =>
  gR h4 a0 0 1 fun r6 =>
  gI h4 a0 0 2 fun x8 =>
  isO h4 a0 0 (cK kc ks fun mc10 ms11 kc12 ks13 => m_Jx4a65c_add_72be8 E a0 rp1 r6 x8 h4 mc10 ms11 (fun h15 =>
 Q 1 h15))
def m_X7_seal_L2 (n : Nat) (E : Ev) (a0 : Nat) (xv1 : Int32) (h : Hp) (kc ks : Nat) (Q : Int64 → Hp → Prop) : Prop := match n with
  | 0 => False
  | n + 1 => gR h a0 8 0 fun r3 =>
  nN r3 fun a7 => isO h a7 0 (m_Jx4a65c_size_8abf5 E a7 h 0 0 (fun x5 h6 =>
 br (x5 ≤ xv1) (gR h6 a0 8 0 fun r10 =>
 nO h6 kc ks 7 3 [.int 0, .int 0, .null] fun a12 h13 kc14 ks15 =>
 gI h13 a0 8 3 fun x17 =>
 gI h13 a0 8 4 fun x19 =>
 gR h13 a0 8 1 fun r21 =>
 gI h13 a0 8 2 fun x23 =>
 cK kc14 ks15 fun mc25 ms26 kc27 ks28 => m_J7_copyOf_c38d5 E r21 x23 h13 mc25 ms26 (fun r29 h30 =>
 m_X6_init E a12 x17 x19 r29 h30 0 0 (fun h33 =>
 nN r10 fun a41 => isO h33 a41 0 (cK kc27 ks28 fun mc35 ms36 kc37 ks38 => m_Jx4a65c_add_9ea2d E a41 (some a12) h33 mc35 ms36 (fun x39 h40 =>
 gR h40 a0 8 0 fun r43 =>
 nN r43 fun a47 => isO h40 a47 0 (m_Jx4a65c_size_8abf5 E a47 h40 0 0 (fun x45 h46 =>
 Q x45.toInt64 h46))))))) (gR h6 a0 8 0 fun r49 =>
 nN r49 fun a53 => isO h6 a53 0 (m_Jx4a65c_get_915e3 E a53 xv1 h6 0 0 (fun r51 h52 =>
 nN r51 fun a55 => isO h52 a55 7 (isO h52 a0 8 (m_X7_isTheirs E a0 (some a55) h52 0 0 (fun x57 h58 =>
 br (x57 = 0) (m_X7_seal_L2 n E a0 (xv1 + 1) h58 kc ks Q) (Q ((xv1 + 1).toInt64) h58)))))))))
def m_X7_seal (E : Ev) (a0 : Nat) (h : Hp) (kc ks : Nat) (Q : Int64 → Hp → Prop) : Prop := ∃ n1, m_X7_seal_L2 n1 E a0 0 h kc ks Q
def m_X4_init (E : Ev) (a0 : Nat) (h : Hp) (kc ks : Nat) (Q : Hp → Prop) : Prop := nA E h kc ks 0 4 64 (fun N => (N, .inl (fun _ => 0))) fun a3 h4 kc5 ks6 =>
  pV h4 a0 5 5 (.ref a3) fun h8 =>
  Q h8
def m_X9_add_L39 (E : Ev) (a0 : Nat) (xv1 : Int32) (xv2 : Int32) (xv3 : Int32) (xv4 : Int32) (h : Hp) (kc ks : Nat) (Q : Option Nat → Hp → Prop) : Prop := gR h a0 10 0 fun r33 =>
  gI h a0 10 1 fun x35 =>
  nN r33 fun a37 => aR E h 3 a37 x35 fun r38 =>
  gI h a0 10 1 fun x40 =>
  pV h a0 10 1 (.int (x40 + 1)) fun h42 =>
  nN r38 fun a44 => pV h42 a44 5 0 (.int xv1) fun h45 =>
  pV h45 a44 5 1 (.int xv2) fun h47 =>
  pV h47 a44 5 2 (.int xv3) fun h49 =>
  pV h49 a44 5 3 (.int xv4) fun h51 =>
  Q (some a44) h51
def m_X9_add (E : Ev) (a0 : Nat) (xp1 : Int32) (xp2 : Int32) (xp3 : Int32) (xp4 : Int32) (h : Hp) (kc ks : Nat) (Q : Option Nat → Hp → Prop) : Prop := gI h a0 10 1 fun x2 =>
  br (x2 < 60) (gR h a0 10 0 fun r5 =>
  gI h a0 10 1 fun x7 =>
  nN r5 fun a9 => aR E h 3 a9 x7 fun r10 =>
  brN r10 (gR h a0 10 0 fun r14 =>
  gI h a0 10 1 fun x16 =>
  nO h kc ks 5 6 [.int 0, .int 0, .int 0, .int 0, .int 0, .null] fun a18 h19 kc20 ks21 =>
  cK kc20 ks21 fun mc23 ms24 kc25 ks26 => m_X4_init E a18 h19 mc23 ms24 (fun h28 =>
 nN r14 fun a30 => isO h28 a18 5 (sR E h28 3 a30 x16 (some a18) fun h31 =>
 m_X9_add_L39 E a0 xp1 xp2 xp3 xp4 h31 kc25 ks26 Q))) (fun a12 => m_X9_add_L39 E a0 xp1 xp2 xp3 xp4 h kc ks Q)) (Q none h)
def m_X4_hasField (E : Ev) (xp0 : Int32) (xp1 : Int32) (h : Hp) (kc ks : Nat) (Q : Int32 → Hp → Prop) : Prop := rI 0 xp0 fun x3 =>
  br (((x3 >>> (xp1 &&& 31)) &&& 1) = 1) (Q 1 h) (Q 0 h)
def m_X4_writeField_L48 (n : Nat) (E : Ev) (a0 : Nat) (yv2 : Int64) (xv4 : Int32) (xv5 : Int32) (h : Hp) (kc ks : Nat) (Q : Hp → Prop) : Prop := match n with
  | 0 => False
  | n + 1 => br (xv4 ≤ xv5) (gI h a0 5 4 fun x24 =>
  pV h a0 5 4 (.int (x24 + (2 + xv4))) fun h26 =>
  Q h26) (gR h a0 5 5 fun r28 =>
  gI h a0 5 4 fun x30 =>
  ∀ x31 : Int32, x31 = ((yv2 >>> ((8 * ((xv4 - 1) - xv5)).toInt64 &&& 63)).toInt32) &&& 255 → nN r28 fun a34 => sI E h 0 a34 ((x30 + 2) + xv5) x31 fun h35 =>
  m_X4_writeField_L48 n E a0 yv2 xv4 (xv5 + 1) h35 kc ks Q)
def m_X4_writeField (E : Ev) (a0 : Nat) (xp1 : Int32) (yp2 : Int64) (h : Hp) (kc ks : Nat) (Q : Hp → Prop) : Prop := rI 1 xp1 fun x3 =>
  gI h a0 5 4 fun x5 =>
  br (((x5 + 2) + x3) ≤ 64) (gR h a0 5 5 fun r8 =>
  gI h a0 5 4 fun x10 =>
  nN r8 fun a12 => sI E h 0 a12 x10 xp1 fun h13 =>
  gR h13 a0 5 5 fun r15 =>
  gI h13 a0 5 4 fun x17 =>
  nN r15 fun a19 => sI E h13 0 a19 (x17 + 1) x3 fun h20 =>
  ∃ n21, m_X4_writeField_L48 n21 E a0 yp2 x3 0 h20 kc ks Q) (Q h)
def m_X4_write_L45 (E : Ev) (a0 : Nat) (rv1 : Option Nat) (xv2 : Int32) (h : Hp) (kc ks : Nat) (K17 : Nat → Option Nat → Int32 → Hp → Nat → Nat → Prop) (Q : Hp → Prop) : Prop := K17 a0 rv1 (xv2 + 1) h kc ks
def m_X4_write_L17 (n : Nat) (E : Ev) (a0 : Nat) (rv1 : Option Nat) (xv2 : Int32) (h : Hp) (kc ks : Nat) (Q : Hp → Prop) : Prop := match n with
  | 0 => False
  | n + 1 => br (12 ≤ xv2) (Q h) (nN rv1 fun a14 => gI h a14 3 0 fun x15 =>
  m_X4_hasField E x15 xv2 h 0 0 (fun x17 h18 =>
 br (x17 = 0) (m_X4_write_L45 E a0 (some a14) xv2 h18 kc ks (fun a0k rv1k xv2k hk kck ksk => m_X4_write_L17 n E a0k rv1k xv2k hk kck ksk Q) Q) (gR h18 a14 3 3 fun r21 =>
 nN r21 fun a23 => aL E h18 1 a23 xv2 fun y24 =>
 isO h18 a0 5 (m_X4_writeField E a0 xv2 y24 h18 0 0 (fun h27 =>
 m_X4_write_L45 E a0 (some a14) xv2 h27 kc ks (fun a0k rv1k xv2k hk kck ksk => m_X4_write_L17 n E a0k rv1k xv2k hk kck ksk Q) Q)))))
def m_X4_write (E : Ev) (a0 : Nat) (rp1 : Option Nat) (h : Hp) (kc ks : Nat) (Q : Hp → Prop) : Prop := gR h a0 5 5 fun r2 =>
  nN rp1 fun a4 => gI h a4 3 0 fun x5 =>
  nN r2 fun a7 => sI E h 0 a7 0 x5 fun h8 =>
  pV h8 a0 5 4 (.int 1) fun h10 =>
  ∃ n11, m_X4_write_L17 n11 E a0 (some a4) 1 h10 kc ks Q
def m_X10_send (E : Ev) (a0 : Nat) (xp1 : Int32) (xp2 : Int32) (xp3 : Int32) (xp4 : Int32) (xp5 : Int32) (h : Hp) (kc ks : Nat) (Q : Int32 → Hp → Prop) : Prop := gR h a0 11 0 fun r2 =>
  nN r2 fun a10 => isO h a10 10 (cK kc ks fun mc4 ms5 kc6 ks7 => m_X9_add E a10 xp2 xp3 xp4 xp5 h mc4 ms5 (fun r8 h9 =>
 brN r8 (Q 0 h9) (fun a12 => gR h9 a0 11 7 fun r14 =>
 nN r14 fun a16 => pV h9 a16 3 0 (.int xp1) fun h17 =>
 gR h17 a0 11 7 fun r19 =>
 isO h17 a12 5 (m_X4_write E a12 r19 h17 0 0 (fun h22 =>
 Q 1 h22)))))
def m_X1_reply (E : Ev) (a0 : Nat) (rp1 : Option Nat) (xp2 : Int32) (h : Hp) (kc ks : Nat) (Q : Hp → Prop) : Prop := gR h a0 2 0 fun r2 =>
  gI h a0 2 1 fun x4 =>
  nN rp1 fun a6 => gI h a6 3 1 fun x7 =>
  gI h a6 3 2 fun x9 =>
  nN r2 fun a17 => isO h a17 11 (cK kc ks fun mc11 ms12 kc13 ks14 => m_X10_send E a17 xp2 0 x4 x7 x9 h mc11 ms12 (fun x15 h16 =>
 Q h16))
def m_X1_takesBegin (E : Ev) (a0 : Nat) (rp1 : Option Nat) (h : Hp) (kc ks : Nat) (Q : Int32 → Hp → Prop) : Prop := gI h a0 2 5 fun x2 =>
  br (x2 < 60000) (isO h a0 2 (cK kc ks fun mc5 ms6 kc7 ks8 => m_X1_losesPower E a0 h mc5 ms6 (fun x9 h10 =>
 br (x9 = 0) (gI h10 a0 2 5 fun x13 =>
 pV h10 a0 2 5 (.int (x13 + 1)) fun h15 =>
 pV h15 a0 2 8 (.int 1) fun h17 =>
 pV h17 a0 2 10 (.int 0) fun h19 =>
 gR h19 a0 2 0 fun r21 =>
 nN r21 fun a23 => gR h19 a23 11 7 fun r24 =>
 nN r24 fun a26 => gR h19 a26 3 3 fun r27 =>
 gI h19 a0 2 1 fun x29 =>
 nN r27 fun a31 => sL E h19 1 a31 1 x29.toInt64 fun h32 =>
 gR h32 a0 2 0 fun r34 =>
 nN r34 fun a36 => gR h32 a36 11 7 fun r37 =>
 nN r37 fun a39 => gR h32 a39 3 3 fun r40 =>
 gI h32 a0 2 5 fun x42 =>
 nN r40 fun a44 => sL E h32 1 a44 2 x42.toInt64 fun h45 =>
 gR h45 a0 2 0 fun r47 =>
 nN r47 fun a49 => gR h45 a49 11 7 fun r50 =>
 nN r50 fun a52 => gR h45 a52 3 3 fun r53 =>
 gR h45 a0 2 0 fun r55 =>
 nN r55 fun a57 => gR h45 a57 11 1 fun r58 =>
 gI h45 a0 2 1 fun x60 =>
 gI h45 a0 2 5 fun x62 =>
 nN rp1 fun a64 => gR h45 a64 3 3 fun r65 =>
 nN r65 fun a67 => aL E h45 1 a67 4 fun y68 =>
 nN r58 fun a72 => isO h45 a72 8 (m_X7_ofCard E a72 x60 x62 y68 h45 0 0 (fun r70 h71 =>
 nN r70 fun a80 => isO h71 a80 8 (cK kc7 ks8 fun mc74 ms75 kc76 ks77 => m_X7_seal E a80 h71 mc74 ms75 (fun y78 h79 =>
 nN r53 fun a82 => sL E h79 1 a82 8 y78 fun h83 =>
 isO h83 a0 2 (cK kc76 ks77 fun mc85 ms86 kc87 ks88 => m_X1_reply E a0 (some a64) 2 h83 mc85 ms86 (fun h90 =>
 Q 1 h90))))))) (Q 1 h10)))) (Q 0 h)
def m_X1_replyPinned (E : Ev) (a0 : Nat) (rp1 : Option Nat) (xp2 : Int32) (xp3 : Int32) (h : Hp) (kc ks : Nat) (Q : Hp → Prop) : Prop := pV h a0 2 10 (.int xp2) fun h2 =>
  gR h2 a0 2 0 fun r4 =>
  nN r4 fun a6 => gR h2 a6 11 7 fun r7 =>
  nN r7 fun a9 => gR h2 a9 3 3 fun r10 =>
  nN r10 fun a12 => sL E h2 1 a12 6 xp3.toInt64 fun h13 =>
  isO h13 a0 2 (cK kc ks fun mc15 ms16 kc17 ks18 => m_X1_reply E a0 rp1 4 h13 mc15 ms16 (fun h20 =>
 Q h20))
def m_X1_takesPin (E : Ev) (a0 : Nat) (rp1 : Option Nat) (h : Hp) (kc ks : Nat) (Q : Int32 → Hp → Prop) : Prop := gI h a0 2 8 fun x2 =>
  br (x2 = 1) (gI h a0 2 6 fun x5 =>
  br (x5 = 0) (isO h a0 2 (cK kc ks fun mc53 ms54 kc55 ks56 => m_X1_replyPinned E a0 rp1 2 2 h mc53 ms54 (fun h58 =>
 Q 1 h58))) (isO h a0 2 (cK kc ks fun mc8 ms9 kc10 ks11 => m_X1_losesPower E a0 h mc8 ms9 (fun x12 h13 =>
 br (x12 = 0) (gI h13 a0 2 6 fun x16 =>
 pV h13 a0 2 6 (.int (x16 - 1)) fun h18 =>
 nN rp1 fun a20 => gR h18 a20 3 3 fun r21 =>
 nN r21 fun a23 => aL E h18 1 a23 9 fun y24 =>
 gI h18 a0 2 2 fun x26 =>
 br ((lg_cmp y24 x26.toInt64) = 0) (isO h18 a0 2 (cK kc10 ks11 fun mc29 ms30 kc31 ks32 => m_X1_losesPower E a0 h18 mc29 ms30 (fun x33 h34 =>
 br (x33 = 0) (pV h34 a0 2 6 (.int 3) fun h37 =>
 isO h37 a0 2 (cK kc31 ks32 fun mc39 ms40 kc41 ks42 => m_X1_replyPinned E a0 (some a20) 1 1 h37 mc39 ms40 (fun h44 =>
 Q 1 h44))) (Q 1 h34)))) (isO h18 a0 2 (cK kc10 ks11 fun mc46 ms47 kc48 ks49 => m_X1_replyPinned E a0 (some a20) 2 0 h18 mc46 ms47 (fun h51 =>
 Q 1 h51)))) (Q 1 h13))))) (Q 0 h)
def m_X2_intField (E : Ev) (a0 : Nat) (xp1 : Int32) (h : Hp) (kc ks : Nat) (Q : Int32 → Hp → Prop) : Prop := gR h a0 3 3 fun r2 =>
  nN r2 fun a4 => aL E h 1 a4 xp1 fun y5 =>
  Q y5.toInt32 h
def m_X1_answerTo (E : Ev) (a0 : Nat) (xp1 : Int32) (yp2 : Int64) (h : Hp) (kc ks : Nat) (Q : Int32 → Hp → Prop) : Prop := gI h a0 2 6 fun x2 =>
  br (x2 = 0) (Q 0 h) (br (xp1 = 0) (Q 0 h) (br (xp1 = 2) (gL h a0 2 3 fun y7 =>
  br (0 < (lg_cmp yp2 y7)) (Q 1 h) (gI h a0 2 7 fun x10 =>
  gI h a0 2 4 fun x12 =>
  br (x12 ≤ x10) (Q 1 h) (Q 2 h))) (Q 1 h)))
def m_X1_keepAsked (E : Ev) (a0 : Nat) (rp1 : Option Nat) (xp2 : Int32) (h : Hp) (kc ks : Nat) (Q : Hp → Prop) : Prop := nO h kc ks 6 8 [.int 0, .int 0, .long 0, .long 0, .int 0, .int 0, .int 0, .long 0] fun a2 h3 kc4 ks5 =>
  m_X5_init E a2 h3 0 0 (fun h8 =>
 pV h8 a0 2 11 (.ref a2) fun h10 =>
 gR h10 a0 2 11 fun r12 =>
 gI h10 a0 2 1 fun x14 =>
 nN r12 fun a16 => pV h10 a16 6 0 (.int x14) fun h17 =>
 gR h17 a0 2 11 fun r19 =>
 gI h17 a0 2 5 fun x21 =>
 nN r19 fun a23 => pV h17 a23 6 1 (.int x21) fun h24 =>
 gR h24 a0 2 11 fun r26 =>
 nN rp1 fun a28 => gR h24 a28 3 3 fun r29 =>
 nN r29 fun a31 => aL E h24 1 a31 3 fun y32 =>
 nN r26 fun a34 => pV h24 a34 6 2 (.long y32) fun h35 =>
 gR h35 a0 2 11 fun r37 =>
 gR h35 a28 3 3 fun r39 =>
 nN r39 fun a41 => aL E h35 1 a41 4 fun y42 =>
 nN r37 fun a44 => pV h35 a44 6 3 (.long y42) fun h45 =>
 gR h45 a0 2 11 fun r47 =>
 isO h45 a28 3 (m_X2_intField E a28 5 h45 0 0 (fun x49 h50 =>
 nN r47 fun a52 => pV h50 a52 6 4 (.int x49) fun h53 =>
 gR h53 a0 2 11 fun r55 =>
 gI h53 a0 2 10 fun x57 =>
 nN r55 fun a59 => pV h53 a59 6 5 (.int x57) fun h60 =>
 gR h60 a0 2 11 fun r62 =>
 nN r62 fun a64 => pV h60 a64 6 6 (.int xp2) fun h65 =>
 gR h65 a0 2 0 fun r67 =>
 nN r67 fun a69 => gR h65 a69 11 5 fun r70 =>
 gR h65 a0 2 11 fun r72 =>
 nN r70 fun a80 => isO h65 a80 0 (cK kc4 ks5 fun mc74 ms75 kc76 ks77 => m_Jx4a65c_add_9ea2d E a80 r72 h65 mc74 ms75 (fun x78 h79 =>
 Q h79)))))
def m_X7_ofAnswer (E : Ev) (a0 : Nat) (rp1 : Option Nat) (h : Hp) (kc ks : Nat) (Q : Option Nat → Hp → Prop) : Prop := nN rp1 fun a2 => gI h a2 6 0 fun x3 =>
  isO h a0 8 (m_X7_key E a0 0 x3 h 0 0 (fun r5 h6 =>
 nN r5 fun a10 => isO h6 a10 8 (m_X7_with E a10 6 h6 0 0 (fun r8 h9 =>
 gI h9 a2 6 6 fun x12 =>
 nN r8 fun a16 => isO h9 a16 8 (m_X7_with E a16 x12.toInt64 h9 0 0 (fun r14 h15 =>
 gL h15 a2 6 2 fun y18 =>
 nN r14 fun a22 => isO h15 a22 8 (m_X7_with E a22 y18 h15 0 0 (fun r20 h21 =>
 gL h21 a2 6 3 fun y24 =>
 nN r20 fun a28 => isO h21 a28 8 (m_X7_with E a28 y24 h21 0 0 (fun r26 h27 =>
 gI h27 a2 6 4 fun x30 =>
 nN r26 fun a34 => isO h27 a34 8 (m_X7_with E a34 x30.toInt64 h27 0 0 (fun r32 h33 =>
 gI h33 a2 6 1 fun x36 =>
 nN r32 fun a40 => isO h33 a40 8 (m_X7_with E a40 x36.toInt64 h33 0 0 (fun r38 h39 =>
 gI h39 a2 6 5 fun x42 =>
 nN r38 fun a46 => isO h39 a46 8 (m_X7_with E a46 x42.toInt64 h39 0 0 (fun r44 h45 =>
 Q r44 h45))))))))))))))))
def m_X1_takesAsk_L68 (E : Ev) (a0 : Nat) (rv1 : Option Nat) (xv2 : Int32) (s0 : Int32) (s1 : Option Nat) (h : Hp) (kc ks : Nat) (Q : Int32 → Hp → Prop) : Prop := nN s1 fun a38 => pV h a38 2 8 (.int s0) fun h39 =>
  gR h39 a0 2 0 fun r41 =>
  nN r41 fun a43 => gR h39 a43 11 7 fun r44 =>
  nN r44 fun a46 => gR h39 a46 3 3 fun r47 =>
  gI h39 a0 2 5 fun x49 =>
  nN r47 fun a51 => sL E h39 1 a51 2 x49.toInt64 fun h52 =>
  gR h52 a0 2 0 fun r54 =>
  nN r54 fun a56 => gR h52 a56 11 7 fun r57 =>
  nN r57 fun a59 => gR h52 a59 3 3 fun r60 =>
  gI h52 a0 2 10 fun x62 =>
  nN r60 fun a64 => sL E h52 1 a64 6 x62.toInt64 fun h65 =>
  gR h65 a0 2 0 fun r67 =>
  nN r67 fun a69 => gR h65 a69 11 7 fun r70 =>
  nN r70 fun a72 => gR h65 a72 3 3 fun r73 =>
  nN r73 fun a75 => sL E h65 1 a75 7 xv2.toInt64 fun h76 =>
  gR h76 a0 2 0 fun r78 =>
  nN r78 fun a80 => gR h76 a80 11 7 fun r81 =>
  nN r81 fun a83 => gR h76 a83 3 3 fun r84 =>
  gR h76 a0 2 0 fun r86 =>
  nN r86 fun a88 => gR h76 a88 11 1 fun r89 =>
  gR h76 a0 2 11 fun r91 =>
  nN r89 fun a95 => isO h76 a95 8 (m_X7_ofAnswer E a95 r91 h76 0 0 (fun r93 h94 =>
 nN r93 fun a103 => isO h94 a103 8 (cK kc ks fun mc97 ms98 kc99 ks100 => m_X7_seal E a103 h94 mc97 ms98 (fun y101 h102 =>
 nN r84 fun a105 => sL E h102 1 a105 8 y101 fun h106 =>
 isO h106 a0 2 (cK kc99 ks100 fun mc108 ms109 kc110 ks111 => m_X1_reply E a0 rv1 6 h106 mc108 ms109 (fun h113 =>
 Q 1 h113))))))
def m_X1_takesAsk_L51 (E : Ev) (a0 : Nat) (rv1 : Option Nat) (xv2 : Int32) (h : Hp) (kc ks : Nat) (Q : Int32 → Hp → Prop) : Prop := isO h a0 2 (cK kc ks fun mc30 ms31 kc32 ks33 => m_X1_keepAsked E a0 rv1 xv2 h mc30 ms31 (fun h35 =>
 br (xv2 = 1) (m_X1_takesAsk_L68 E a0 rv1 xv2 2 (some a0) h35 kc32 ks33 Q) (m_X1_takesAsk_L68 E a0 rv1 xv2 0 (some a0) h35 kc32 ks33 Q)))
def m_X1_takesAsk (E : Ev) (a0 : Nat) (rp1 : Option Nat) (h : Hp) (kc ks : Nat) (Q : Int32 → Hp → Prop) : Prop := gI h a0 2 8 fun x2 =>
  br (x2 = 1) (nN rp1 fun a7 => isO h a7 3 (m_X2_intField E a7 7 h 0 0 (fun x5 h6 =>
 gR h6 a7 3 3 fun r9 =>
 nN r9 fun a11 => aL E h6 1 a11 3 fun y12 =>
 isO h6 a0 2 (m_X1_answerTo E a0 x5 y12 h6 0 0 (fun x14 h15 =>
 br (x14 = 2) (isO h15 a0 2 (cK kc ks fun mc18 ms19 kc20 ks21 => m_X1_losesPower E a0 h15 mc18 ms19 (fun x22 h23 =>
 br (x22 = 0) (gI h23 a0 2 7 fun x26 =>
 pV h23 a0 2 7 (.int (x26 + 1)) fun h28 =>
 m_X1_takesAsk_L51 E a0 (some a7) x14 h28 kc20 ks21 Q) (Q 1 h23)))) (m_X1_takesAsk_L51 E a0 (some a7) x14 h15 kc ks Q)))))) (Q 0 h)
def m_X7_ofWordToCard (E : Ev) (a0 : Nat) (xp1 : Int32) (xp2 : Int32) (xp3 : Int32) (h : Hp) (kc ks : Nat) (Q : Option Nat → Hp → Prop) : Prop := isO h a0 8 (m_X7_key E a0 2 xp1 h 0 0 (fun r2 h3 =>
 nN r2 fun a7 => isO h3 a7 8 (m_X7_with E a7 8 h3 0 0 (fun r5 h6 =>
 nN r5 fun a11 => isO h6 a11 8 (m_X7_with E a11 xp1.toInt64 h6 0 0 (fun r9 h10 =>
 nN r9 fun a15 => isO h10 a15 8 (m_X7_with E a15 xp2.toInt64 h10 0 0 (fun r13 h14 =>
 nN r13 fun a19 => isO h14 a19 8 (m_X7_with E a19 xp3.toInt64 h14 0 0 (fun r17 h18 =>
 Q r17 h18))))))))))
def m_X7_isGood (E : Ev) (a0 : Nat) (yp1 : Int64) (h : Hp) (kc ks : Nat) (Q : Int32 → Hp → Prop) : Prop := br ((lg_cmp yp1 1) < 0) (Q 0 h) (gR h a0 8 0 fun r3 =>
  nN r3 fun a7 => isO h a7 0 (m_Jx4a65c_size_8abf5 E a7 h 0 0 (fun x5 h6 =>
 br (0 < (lg_cmp yp1 x5.toInt64)) (Q 0 h6) (gR h6 a0 8 0 fun r10 =>
 nN r10 fun a14 => isO h6 a14 0 (m_Jx4a65c_get_915e3 E a14 (yp1.toInt32 - 1) h6 0 0 (fun r12 h13 =>
 nN r12 fun a16 => isO h13 a16 7 (isO h13 a0 8 (m_X7_isTheirs E a0 (some a16) h13 0 0 (fun x18 h19 =>
 br (x18 = 0) (Q 0 h19) (Q 1 h19))))))))))
def m_X1_isApproved (E : Ev) (a0 : Nat) (rp1 : Option Nat) (h : Hp) (kc ks : Nat) (Q : Int32 → Hp → Prop) : Prop := nN rp1 fun a2 => gR h a2 3 3 fun r3 =>
  nN r3 fun a5 => aL E h 1 a5 10 fun y6 =>
  br ((lg_cmp y6 1) = 0) (gR h a0 2 0 fun r9 =>
  nN r9 fun a11 => gR h a11 11 1 fun r12 =>
  gI h a0 2 1 fun x14 =>
  gI h a0 2 5 fun x16 =>
  nN r12 fun a20 => isO h a20 8 (m_X7_ofWordToCard E a20 x14 x16 1 h 0 0 (fun r18 h19 =>
 gR h19 a2 3 3 fun r22 =>
 nN r22 fun a24 => aL E h19 1 a24 8 fun y25 =>
 nN r18 fun a29 => isO h19 a29 8 (m_X7_isGood E a29 y25 h19 0 0 (fun x27 h28 =>
 br (x27 = 0) (Q 0 h28) (Q 1 h28)))))) (Q 0 h)
def m_X7_ofLast (E : Ev) (a0 : Nat) (rp1 : Option Nat) (xp2 : Int32) (h : Hp) (kc ks : Nat) (Q : Option Nat → Hp → Prop) : Prop := nN rp1 fun a2 => gI h a2 6 0 fun x3 =>
  isO h a0 8 (m_X7_key E a0 0 x3 h 0 0 (fun r5 h6 =>
 nN r5 fun a10 => isO h6 a10 8 (m_X7_with E a10 10 h6 0 0 (fun r8 h9 =>
 nN r8 fun a14 => isO h9 a14 8 (m_X7_with E a14 xp2.toInt64 h9 0 0 (fun r12 h13 =>
 gL h13 a2 6 2 fun y16 =>
 nN r12 fun a20 => isO h13 a20 8 (m_X7_with E a20 y16 h13 0 0 (fun r18 h19 =>
 gL h19 a2 6 3 fun y22 =>
 nN r18 fun a26 => isO h19 a26 8 (m_X7_with E a26 y22 h19 0 0 (fun r24 h25 =>
 gI h25 a2 6 4 fun x28 =>
 nN r24 fun a32 => isO h25 a32 8 (m_X7_with E a32 x28.toInt64 h25 0 0 (fun r30 h31 =>
 gI h31 a2 6 1 fun x34 =>
 nN r30 fun a38 => isO h31 a38 8 (m_X7_with E a38 x34.toInt64 h31 0 0 (fun r36 h37 =>
 Q r36 h37))))))))))))))
def m_X1_takesEnd_L43 (E : Ev) (a0 : Nat) (rv1 : Option Nat) (xv2 : Int32) (h : Hp) (kc ks : Nat) (Q : Int32 → Hp → Prop) : Prop := pV h a0 2 8 (.int 0) fun h20 =>
  gR h20 a0 2 0 fun r22 =>
  nN r22 fun a24 => gR h20 a24 11 7 fun r25 =>
  nN r25 fun a27 => gR h20 a27 3 3 fun r28 =>
  nN r28 fun a30 => sL E h20 1 a30 7 xv2.toInt64 fun h31 =>
  gR h31 a0 2 0 fun r33 =>
  nN r33 fun a35 => gR h31 a35 11 7 fun r36 =>
  nN r36 fun a38 => gR h31 a38 3 3 fun r39 =>
  gR h31 a0 2 0 fun r41 =>
  nN r41 fun a43 => gR h31 a43 11 1 fun r44 =>
  gR h31 a0 2 11 fun r46 =>
  nN r44 fun a50 => isO h31 a50 8 (m_X7_ofLast E a50 r46 xv2 h31 0 0 (fun r48 h49 =>
 nN r48 fun a58 => isO h49 a58 8 (cK kc ks fun mc52 ms53 kc54 ks55 => m_X7_seal E a58 h49 mc52 ms53 (fun y56 h57 =>
 nN r39 fun a60 => sL E h57 1 a60 8 y56 fun h61 =>
 isO h61 a0 2 (cK kc54 ks55 fun mc63 ms64 kc65 ks66 => m_X1_reply E a0 rv1 10 h61 mc63 ms64 (fun h68 =>
 Q 1 h68))))))
def m_X1_takesEnd_L23 (E : Ev) (a0 : Nat) (rv1 : Option Nat) (s0 : Int32) (h : Hp) (kc ks : Nat) (Q : Int32 → Hp → Prop) : Prop := br (s0 = 2) (isO h a0 2 (cK kc ks fun mc10 ms11 kc12 ks13 => m_X1_losesPower E a0 h mc10 ms11 (fun x14 h15 =>
 br (x14 = 0) (pV h15 a0 2 7 (.int 0) fun h18 =>
 m_X1_takesEnd_L43 E a0 rv1 s0 h18 kc12 ks13 Q) (Q 1 h15)))) (m_X1_takesEnd_L43 E a0 rv1 s0 h kc ks Q)
def m_X1_takesEnd (E : Ev) (a0 : Nat) (rp1 : Option Nat) (h : Hp) (kc ks : Nat) (Q : Int32 → Hp → Prop) : Prop := gI h a0 2 8 fun x2 =>
  br (x2 = 2) (isO h a0 2 (m_X1_isApproved E a0 rp1 h 0 0 (fun x5 h6 =>
 br (x5 = 0) (m_X1_takesEnd_L23 E a0 rp1 0 h6 kc ks Q) (m_X1_takesEnd_L23 E a0 rp1 2 h6 kc ks Q)))) (Q 0 h)
def m_X1_takes (E : Ev) (a0 : Nat) (rp1 : Option Nat) (h : Hp) (kc ks : Nat) (Q : Int32 → Hp → Prop) : Prop := nN rp1 fun a2 => gI h a2 3 0 fun x3 =>
  br (x3 = 1) (isO h a0 2 (cK kc ks fun mc5 ms6 kc7 ks8 => m_X1_takesBegin E a0 (some a2) h mc5 ms6 (fun x9 h10 =>
 ((x9 = 0 ∨ x9 = 1) ∧ Q x9 h10)))) (br (x3 = 3) (isO h a0 2 (cK kc ks fun mc12 ms13 kc14 ks15 => m_X1_takesPin E a0 (some a2) h mc12 ms13 (fun x16 h17 =>
 ((x16 = 0 ∨ x16 = 1) ∧ Q x16 h17)))) (br (x3 = 5) (isO h a0 2 (cK kc ks fun mc19 ms20 kc21 ks22 => m_X1_takesAsk E a0 (some a2) h mc19 ms20 (fun x23 h24 =>
 ((x23 = 0 ∨ x23 = 1) ∧ Q x23 h24)))) (br (x3 = 9) (isO h a0 2 (cK kc ks fun mc26 ms27 kc28 ks29 => m_X1_takesEnd E a0 (some a2) h mc26 ms27 (fun x30 h31 =>
 ((x30 = 0 ∨ x30 = 1) ∧ Q x30 h31)))) (Q 0 h))))
def m_X2_init (E : Ev) (a0 : Nat) (h : Hp) (kc ks : Nat) (Q : Hp → Prop) : Prop := nA E h kc ks 1 8 12 (fun N => (N, .inr (.inl (fun _ => 0)))) fun a3 h4 kc5 ks6 =>
  pV h4 a0 3 3 (.ref a3) fun h8 =>
  Q h8
def m_Jxa1e45_init_da8c8 (E : Ev) (a0 : Nat) (h : Hp) (kc ks : Nat) (Q : Hp → Prop) : Prop := Q h
def m_Jxc12de_init_da8c8 (E : Ev) (a0 : Nat) (h : Hp) (kc ks : Nat) (Q : Hp → Prop) : Prop := m_Jxa1e45_init_da8c8 E a0 h 0 0 (fun h3 =>
 pV h3 a0 0 0 (.int 0) fun h5 =>
 Q h5)
def m_Jx4a65c_init_da8c8 (E : Ev) (a0 : Nat) (h : Hp) (kc ks : Nat) (Q : Hp → Prop) : Prop := m_Jxc12de_init_da8c8 E a0 h 0 0 (fun h3 =>
 pV h3 a0 0 1 (.ref (E.2.1 2)) fun h6 =>
 Q h6)
def m_X3_init (E : Ev) (a0 : Nat) (rp1 : Option Nat) (h : Hp) (kc ks : Nat) (Q : Hp → Prop) : Prop := nO h kc ks 0 3 [.int 0, .null, .int 0] fun a3 h4 kc5 ks6 =>
  m_Jx4a65c_init_da8c8 E a3 h4 0 0 (fun h9 =>
 pV h9 a0 4 1 (.ref a3) fun h11 =>
 nO h11 kc5 ks6 0 3 [.int 0, .null, .int 0] fun a13 h14 kc15 ks16 =>
 m_Jx4a65c_init_da8c8 E a13 h14 0 0 (fun h19 =>
 pV h19 a0 4 2 (.ref a13) fun h21 =>
 pV h21 a0 4 0 (va_rf rp1) fun h23 =>
 Q h23))
def m_X3_paymentOf (E : Ev) (rp0 : Option Nat) (xp1 : Int32) (h : Hp) (kc ks : Nat) (Q : Option Nat → Hp → Prop) : Prop := nO h kc ks 6 8 [.int 0, .int 0, .long 0, .long 0, .int 0, .int 0, .int 0, .long 0] fun a2 h3 kc4 ks5 =>
  m_X5_init E a2 h3 0 0 (fun h8 =>
 nN rp0 fun a12 => isO h8 a12 3 (m_X2_intField E a12 1 h8 0 0 (fun x10 h11 =>
 pV h11 a2 6 0 (.int x10) fun h14 =>
 isO h14 a12 3 (m_X2_intField E a12 2 h14 0 0 (fun x16 h17 =>
 pV h17 a2 6 1 (.int x16) fun h19 =>
 gR h19 a12 3 3 fun r21 =>
 nN r21 fun a23 => aL E h19 1 a23 3 fun y24 =>
 pV h19 a2 6 2 (.long y24) fun h26 =>
 gR h26 a12 3 3 fun r28 =>
 nN r28 fun a30 => aL E h26 1 a30 4 fun y31 =>
 pV h26 a2 6 3 (.long y31) fun h33 =>
 isO h33 a12 3 (m_X2_intField E a12 5 h33 0 0 (fun x35 h36 =>
 pV h36 a2 6 4 (.int x35) fun h38 =>
 isO h38 a12 3 (m_X2_intField E a12 6 h38 0 0 (fun x40 h41 =>
 pV h41 a2 6 5 (.int x40) fun h43 =>
 pV h43 a2 6 6 (.int xp1) fun h45 =>
 gR h45 a12 3 3 fun r47 =>
 nN r47 fun a49 => aL E h45 1 a49 8 fun y50 =>
 pV h45 a2 6 7 (.long y50) fun h52 =>
 Q (some a2) h52)))))))))
def m_X10_isTerminal (E : Ev) (a0 : Nat) (xp1 : Int32) (h : Hp) (kc ks : Nat) (Q : Int32 → Hp → Prop) : Prop := br (xp1 < 0) (Q 0 h) (gR h a0 11 3 fun r3 =>
  nN r3 fun a7 => isO h a7 0 (m_Jx4a65c_size_8abf5 E a7 h 0 0 (fun x5 h6 =>
 br (x5 ≤ xp1) (Q 0 h6) (Q 1 h6))))
def m_X7_ofTerminal (E : Ev) (a0 : Nat) (xp1 : Int32) (rp2 : Option Nat) (h : Hp) (kc ks : Nat) (Q : Option Nat → Hp → Prop) : Prop := nN rp2 fun a2 => gI h a2 6 4 fun x3 =>
  isO h a0 8 (m_X7_key E a0 1 x3 h 0 0 (fun r5 h6 =>
 nN r5 fun a10 => isO h6 a10 8 (m_X7_with E a10 xp1.toInt64 h6 0 0 (fun r8 h9 =>
 gI h9 a2 6 0 fun x12 =>
 nN r8 fun a16 => isO h9 a16 8 (m_X7_with E a16 x12.toInt64 h9 0 0 (fun r14 h15 =>
 gI h15 a2 6 1 fun x18 =>
 nN r14 fun a22 => isO h15 a22 8 (m_X7_with E a22 x18.toInt64 h15 0 0 (fun r20 h21 =>
 gL h21 a2 6 2 fun y24 =>
 nN r20 fun a28 => isO h21 a28 8 (m_X7_with E a28 y24 h21 0 0 (fun r26 h27 =>
 gL h27 a2 6 3 fun y30 =>
 nN r26 fun a34 => isO h27 a34 8 (m_X7_with E a34 y30 h27 0 0 (fun r32 h33 =>
 gI h33 a2 6 4 fun x36 =>
 nN r32 fun a40 => isO h33 a40 8 (m_X7_with E a40 x36.toInt64 h33 0 0 (fun r38 h39 =>
 gI h39 a2 6 5 fun x42 =>
 nN r38 fun a46 => isO h39 a46 8 (m_X7_with E a46 x42.toInt64 h39 0 0 (fun r44 h45 =>
 gL h45 a2 6 7 fun y48 =>
 nN r44 fun a52 => isO h45 a52 8 (m_X7_with E a52 y48 h45 0 0 (fun r50 h51 =>
 Q r50 h51))))))))))))))))))
def m_X3_isFromTerminal (E : Ev) (a0 : Nat) (rp1 : Option Nat) (rp2 : Option Nat) (h : Hp) (kc ks : Nat) (Q : Int32 → Hp → Prop) : Prop := gR h a0 4 0 fun r2 =>
  nN rp2 fun a4 => gI h a4 6 4 fun x5 =>
  nN r2 fun a9 => isO h a9 11 (m_X10_isTerminal E a9 x5 h 0 0 (fun x7 h8 =>
 br (x7 = 0) (Q 0 h8) (gR h8 a0 4 0 fun r12 =>
 nN r12 fun a14 => gR h8 a14 11 1 fun r15 =>
 nN rp1 fun a17 => gI h8 a17 3 0 fun x18 =>
 nN r15 fun a22 => isO h8 a22 8 (m_X7_ofTerminal E a22 x18 (some a4) h8 0 0 (fun r20 h21 =>
 gR h21 a17 3 3 fun r24 =>
 nN r24 fun a26 => aL E h21 1 a26 11 fun y27 =>
 nN r20 fun a31 => isO h21 a31 8 (m_X7_isGood E a31 y27 h21 0 0 (fun x29 h30 =>
 br (x29 = 0) (Q 0 h30) (Q 1 h30))))))))
def m_X3_isAnswerOfCard (E : Ev) (a0 : Nat) (rp1 : Option Nat) (h : Hp) (kc ks : Nat) (Q : Int32 → Hp → Prop) : Prop := nN rp1 fun a2 => gI h a2 6 0 fun x3 =>
  gR h a0 4 1 fun r5 =>
  nN r5 fun a9 => isO h a9 0 (m_Jx4a65c_size_8abf5 E a9 h 0 0 (fun x7 h8 =>
 br (x7 ≤ x3) (Q 0 h8) (gR h8 a0 4 0 fun r12 =>
 nN r12 fun a14 => gR h8 a14 11 1 fun r15 =>
 nN r15 fun a19 => isO h8 a19 8 (m_X7_ofAnswer E a19 (some a2) h8 0 0 (fun r17 h18 =>
 gL h18 a2 6 7 fun y21 =>
 nN r17 fun a25 => isO h18 a25 8 (m_X7_isGood E a25 y21 h18 0 0 (fun x23 h24 =>
 br (x23 = 0) (Q 0 h24) (Q 1 h24))))))))
def m_X3_take (E : Ev) (a0 : Nat) (rp1 : Option Nat) (rp2 : Option Nat) (h : Hp) (kc ks : Nat) (Q : Hp → Prop) : Prop := nN rp1 fun a2 => gL h a2 1 0 fun y3 =>
  nN rp2 fun a5 => gL h a5 6 2 fun y6 =>
  pV h a2 1 0 (.long (y3 - y6)) fun h8 =>
  gR h8 a0 4 2 fun r10 =>
  nN r10 fun a18 => isO h8 a18 0 (cK kc ks fun mc12 ms13 kc14 ks15 => m_Jx4a65c_add_9ea2d E a18 (some a5) h8 mc12 ms13 (fun x16 h17 =>
 Q h17))
def m_X3_wordFor (E : Ev) (a0 : Nat) (rp1 : Option Nat) (h : Hp) (kc ks : Nat) (Q : Int32 → Hp → Prop) : Prop := isO h a0 4 (m_X3_isAnswerOfCard E a0 rp1 h 0 0 (fun x2 h3 =>
 br (x2 = 0) (Q 0 h3) (gR h3 a0 4 1 fun r6 =>
 nN rp1 fun a8 => gI h3 a8 6 0 fun x9 =>
 nN r6 fun a13 => isO h3 a13 0 (m_Jx4a65c_get_915e3 E a13 x9 h3 0 0 (fun r11 h12 =>
 nN r11 fun a15 => isO h12 a15 1 (gI h12 a8 6 1 fun x17 =>
 gI h12 a15 1 1 fun x19 =>
 br (x19 < x17) (gI h12 a8 6 1 fun x22 =>
 pV h12 a15 1 1 (.int x22) fun h24 =>
 gL h24 a15 1 0 fun y26 =>
 gL h24 a8 6 2 fun y28 =>
 br (0 ≤ (lg_cmp y26 y28)) (isO h24 a0 4 (cK kc ks fun mc31 ms32 kc33 ks34 => m_X3_take E a0 (some a15) (some a8) h24 mc31 ms32 (fun h36 =>
 Q 1 h36))) (Q 0 h24)) (Q 0 h12)))))))
def m_X7_ofWordToTerminal (E : Ev) (a0 : Nat) (rp1 : Option Nat) (xp2 : Int32) (h : Hp) (kc ks : Nat) (Q : Option Nat → Hp → Prop) : Prop := nN rp1 fun a2 => gI h a2 6 4 fun x3 =>
  isO h a0 8 (m_X7_key E a0 1 x3 h 0 0 (fun r5 h6 =>
 nN r5 fun a10 => isO h6 a10 8 (m_X7_with E a10 8 h6 0 0 (fun r8 h9 =>
 gI h9 a2 6 0 fun x12 =>
 nN r8 fun a16 => isO h9 a16 8 (m_X7_with E a16 x12.toInt64 h9 0 0 (fun r14 h15 =>
 gI h15 a2 6 1 fun x18 =>
 nN r14 fun a22 => isO h15 a22 8 (m_X7_with E a22 x18.toInt64 h15 0 0 (fun r20 h21 =>
 nN r20 fun a26 => isO h21 a26 8 (m_X7_with E a26 xp2.toInt64 h21 0 0 (fun r24 h25 =>
 gL h25 a2 6 2 fun y28 =>
 nN r24 fun a32 => isO h25 a32 8 (m_X7_with E a32 y28 h25 0 0 (fun r30 h31 =>
 Q r30 h31))))))))))))
def m_X3_takesRequest (E : Ev) (a0 : Nat) (rp1 : Option Nat) (h : Hp) (kc ks : Nat) (Q : Int32 → Hp → Prop) : Prop := cK kc ks fun mc2 ms3 kc4 ks5 => m_X3_paymentOf E rp1 1 h mc2 ms3 (fun r6 h7 =>
 isO h7 a0 4 (m_X3_isFromTerminal E a0 rp1 r6 h7 0 0 (fun x9 h10 =>
 br (x9 = 0) (Q 0 h10) (isO h10 a0 4 (cK kc4 ks5 fun mc13 ms14 kc15 ks16 => m_X3_wordFor E a0 r6 h10 mc13 ms14 (fun x17 h18 =>
 gR h18 a0 4 0 fun r20 =>
 nN r20 fun a22 => gR h18 a22 11 7 fun r23 =>
 nN r23 fun a25 => gR h18 a25 3 3 fun r26 =>
 nN r6 fun a28 => gI h18 a28 6 0 fun x29 =>
 nN r26 fun a31 => sL E h18 1 a31 1 x29.toInt64 fun h32 =>
 gR h32 a0 4 0 fun r34 =>
 nN r34 fun a36 => gR h32 a36 11 7 fun r37 =>
 nN r37 fun a39 => gR h32 a39 3 3 fun r40 =>
 gI h32 a28 6 1 fun x42 =>
 nN r40 fun a44 => sL E h32 1 a44 2 x42.toInt64 fun h45 =>
 gR h45 a0 4 0 fun r47 =>
 nN r47 fun a49 => gR h45 a49 11 7 fun r50 =>
 nN r50 fun a52 => gR h45 a52 3 3 fun r53 =>
 gR h45 a0 4 0 fun r55 =>
 nN r55 fun a57 => gR h45 a57 11 1 fun r58 =>
 gI h45 a28 6 0 fun x60 =>
 gI h45 a28 6 1 fun x62 =>
 nN r58 fun a66 => isO h45 a66 8 (m_X7_ofWordToCard E a66 x60 x62 x17 h45 0 0 (fun r64 h65 =>
 nN r64 fun a74 => isO h65 a74 8 (cK kc15 ks16 fun mc68 ms69 kc70 ks71 => m_X7_seal E a74 h65 mc68 ms69 (fun y72 h73 =>
 nN r53 fun a76 => sL E h73 1 a76 8 y72 fun h77 =>
 gR h77 a0 4 0 fun r79 =>
 nN r79 fun a81 => gR h77 a81 11 7 fun r82 =>
 nN r82 fun a84 => gR h77 a84 3 3 fun r85 =>
 nN r85 fun a87 => sL E h77 1 a87 10 x17.toInt64 fun h88 =>
 gR h88 a0 4 0 fun r90 =>
 nN r90 fun a92 => gR h88 a92 11 7 fun r93 =>
 nN r93 fun a95 => gR h88 a95 3 3 fun r96 =>
 gR h88 a0 4 0 fun r98 =>
 nN r98 fun a100 => gR h88 a100 11 1 fun r101 =>
 nN r101 fun a105 => isO h88 a105 8 (m_X7_ofWordToTerminal E a105 (some a28) x17 h88 0 0 (fun r103 h104 =>
 nN r103 fun a113 => isO h104 a113 8 (cK kc70 ks71 fun mc107 ms108 kc109 ks110 => m_X7_seal E a113 h104 mc107 ms108 (fun y111 h112 =>
 nN r96 fun a115 => sL E h112 1 a115 11 y111 fun h116 =>
 gR h116 a0 4 0 fun r118 =>
 gI h116 a28 6 4 fun x120 =>
 nN r118 fun a128 => isO h116 a128 11 (cK kc109 ks110 fun mc122 ms123 kc124 ks125 => m_X10_send E a128 8 2 0 1 x120 h116 mc122 ms123 (fun x126 h127 =>
 Q 1 h127))))))))))))))))
def m_X3_debitsOfCounter_L55 (E : Ev) (a0 : Nat) (rv1 : Option Nat) (xv2 : Int32) (xv3 : Int32) (h : Hp) (kc ks : Nat) (K4 : Nat → Option Nat → Int32 → Int32 → Hp → Nat → Nat → Prop) (Q : Int32 → Hp → Prop) : Prop := K4 a0 rv1 xv2 (xv3 + 1) h kc ks
def m_X3_debitsOfCounter_L4 (n : Nat) (E : Ev) (a0 : Nat) (rv1 : Option Nat) (xv2 : Int32) (xv3 : Int32) (h : Hp) (kc ks : Nat) (Q : Int32 → Hp → Prop) : Prop := match n with
  | 0 => False
  | n + 1 => gR h a0 4 2 fun r3 =>
  nN r3 fun a7 => isO h a7 0 (m_Jx4a65c_size_8abf5 E a7 h 0 0 (fun x5 h6 =>
 br (x5 ≤ xv3) (Q xv2 h6) (gR h6 a0 4 2 fun r10 =>
 nN r10 fun a14 => isO h6 a14 0 (m_Jx4a65c_get_915e3 E a14 xv3 h6 0 0 (fun r12 h13 =>
 nN r12 fun a16 => isO h13 a16 6 (gI h13 a16 6 0 fun x18 =>
 nN rv1 fun a20 => gI h13 a20 6 0 fun x21 =>
 br (x18 = x21) (gI h13 a16 6 1 fun x24 =>
 gI h13 a20 6 1 fun x26 =>
 br (x24 = x26) (m_X3_debitsOfCounter_L55 E a0 (some a20) (xv2 + 1) xv3 h13 kc ks (fun a0k rv1k xv2k xv3k hk kck ksk => m_X3_debitsOfCounter_L4 n E a0k rv1k xv2k xv3k hk kck ksk Q) Q) (m_X3_debitsOfCounter_L55 E a0 (some a20) xv2 xv3 h13 kc ks (fun a0k rv1k xv2k xv3k hk kck ksk => m_X3_debitsOfCounter_L4 n E a0k rv1k xv2k xv3k hk kck ksk Q) Q)) (m_X3_debitsOfCounter_L55 E a0 (some a20) xv2 xv3 h13 kc ks (fun a0k rv1k xv2k xv3k hk kck ksk => m_X3_debitsOfCounter_L4 n E a0k rv1k xv2k xv3k hk kck ksk Q) Q)))))))
def m_X3_debitsOfCounter (E : Ev) (a0 : Nat) (rp1 : Option Nat) (h : Hp) (kc ks : Nat) (Q : Int32 → Hp → Prop) : Prop := ∃ n1, m_X3_debitsOfCounter_L4 n1 E a0 rp1 0 0 h kc ks Q
def m_X3_takesClear (E : Ev) (a0 : Nat) (rp1 : Option Nat) (h : Hp) (kc ks : Nat) (Q : Int32 → Hp → Prop) : Prop := cK kc ks fun mc2 ms3 kc4 ks5 => m_X3_paymentOf E rp1 2 h mc2 ms3 (fun r6 h7 =>
 isO h7 a0 4 (m_X3_isFromTerminal E a0 rp1 r6 h7 0 0 (fun x9 h10 =>
 br (x9 = 0) (Q 0 h10) (isO h10 a0 4 (m_X3_isAnswerOfCard E a0 r6 h10 0 0 (fun x13 h14 =>
 br (x13 = 0) (Q 0 h14) (isO h14 a0 4 (m_X3_debitsOfCounter E a0 r6 h14 0 0 (fun x17 h18 =>
 br (x17 ≤ 0) (gR h18 a0 4 1 fun r21 =>
 nN r6 fun a23 => gI h18 a23 6 0 fun x24 =>
 nN r21 fun a28 => isO h18 a28 0 (m_Jx4a65c_get_915e3 E a28 x24 h18 0 0 (fun r26 h27 =>
 nN r26 fun a30 => isO h27 a30 1 (isO h27 a0 4 (cK kc4 ks5 fun mc32 ms33 kc34 ks35 => m_X3_take E a0 (some a30) (some a23) h27 mc32 ms33 (fun h37 =>
 Q 1 h37)))))) (Q 0 h18))))))))))
def m_X3_takes (E : Ev) (a0 : Nat) (rp1 : Option Nat) (h : Hp) (kc ks : Nat) (Q : Int32 → Hp → Prop) : Prop := nN rp1 fun a2 => gI h a2 3 0 fun x3 =>
  br (x3 = 7) (isO h a0 4 (cK kc ks fun mc5 ms6 kc7 ks8 => m_X3_takesRequest E a0 (some a2) h mc5 ms6 (fun x9 h10 =>
 ((x9 = 0 ∨ x9 = 1) ∧ Q x9 h10)))) (br (x3 = 11) (isO h a0 4 (cK kc ks fun mc12 ms13 kc14 ks15 => m_X3_takesClear E a0 (some a2) h mc12 ms13 (fun x16 h17 =>
 ((x16 = 0 ∨ x16 = 1) ∧ Q x16 h17)))) (Q 0 h))
def m_X4_has (E : Ev) (a0 : Nat) (xp1 : Int32) (h : Hp) (kc ks : Nat) (Q : Int32 → Hp → Prop) : Prop := br (xp1 < 0) (Q 0 h) (gI h a0 5 4 fun x3 =>
  br (x3 ≤ xp1) (Q 0 h) (Q 1 h))
def m_X4_copyBytes (E : Ev) (a0 : Nat) (rp1 : Option Nat) (xp2 : Int32) (h : Hp) (kc ks : Nat) (Q : Hp → Prop) : Prop := ∀ x2 : Int32, x2 = (if (64 : Int32) < xp2 then 64 else xp2) → pV h a0 5 4 (.int x2) fun h5 =>
  gR h5 a0 5 5 fun r7 =>
  gI h5 a0 5 4 fun x9 =>
  nN rp1 fun a11 => nN r7 fun a12 => cpI E h5 0 a11 a12 0 0 x9 fun h13 =>
  Q h13
def m_X4_isFieldAt (E : Ev) (a0 : Nat) (xp1 : Int32) (xp2 : Int32) (h : Hp) (kc ks : Nat) (Q : Int32 → Hp → Prop) : Prop := rI 1 xp2 fun x3 =>
  gI h a0 5 4 fun x5 =>
  br (x5 < ((xp1 + 2) + x3)) (Q 0 h) (gR h a0 5 5 fun r8 =>
  nN r8 fun a10 => aI E h 0 a10 xp1 fun x11 =>
  br (x11 = xp2) (gR h a0 5 5 fun r14 =>
  nN r14 fun a16 => aI E h 0 a16 (xp1 + 1) fun x17 =>
  rI 1 xp2 fun x20 =>
  br (x17 = x20) (Q 1 h) (Q 0 h)) (Q 0 h))
def m_X4_numberAt_L5 (n : Nat) (E : Ev) (a0 : Nat) (xv1 : Int32) (xv2 : Int32) (yv3 : Int64) (xv5 : Int32) (h : Hp) (kc ks : Nat) (Q : Int64 → Hp → Prop) : Prop := match n with
  | 0 => False
  | n + 1 => br (xv2 ≤ xv5) (Q yv3 h) (gR h a0 5 5 fun r4 =>
  nN r4 fun a6 => aI E h 0 a6 (xv1 + xv5) fun x7 =>
  m_X4_numberAt_L5 n E a0 xv1 xv2 ((yv3 * 256) + x7.toInt64) (xv5 + 1) h kc ks Q)
def m_X4_numberAt (E : Ev) (a0 : Nat) (xp1 : Int32) (xp2 : Int32) (h : Hp) (kc ks : Nat) (Q : Int64 → Hp → Prop) : Prop := ∃ n1, m_X4_numberAt_L5 n1 E a0 xp1 xp2 0 0 h kc ks Q
def m_X4_read_L116 (E : Ev) (a0 : Nat) (rv1 : Option Nat) (xv2 : Int32) (xv3 : Int32) (h : Hp) (kc ks : Nat) (K60 : Nat → Option Nat → Int32 → Int32 → Hp → Nat → Nat → Prop) (Q : Int32 → Hp → Prop) : Prop := K60 a0 rv1 xv2 (xv3 + 1) h kc ks
def m_X4_read_L60 (n : Nat) (E : Ev) (a0 : Nat) (rv1 : Option Nat) (xv2 : Int32) (xv3 : Int32) (h : Hp) (kc ks : Nat) (Q : Int32 → Hp → Prop) : Prop := match n with
  | 0 => False
  | n + 1 => br (12 ≤ xv3) (gI h a0 5 4 fun x35 =>
  br (xv2 = x35) (Q 1 h) (Q 0 h)) (nN rv1 fun a38 => gI h a38 3 0 fun x39 =>
  m_X4_hasField E x39 xv3 h 0 0 (fun x41 h42 =>
 br (x41 = 0) (m_X4_read_L116 E a0 (some a38) xv2 xv3 h42 kc ks (fun a0k rv1k xv2k xv3k hk kck ksk => m_X4_read_L60 n E a0k rv1k xv2k xv3k hk kck ksk Q) Q) (isO h42 a0 5 (m_X4_isFieldAt E a0 xv2 xv3 h42 0 0 (fun x45 h46 =>
 br (x45 = 0) (Q 0 h46) (gR h46 a38 3 3 fun r49 =>
 rI 1 xv3 fun x52 =>
 isO h46 a0 5 (m_X4_numberAt E a0 (xv2 + 2) x52 h46 0 0 (fun y54 h55 =>
 nN r49 fun a57 => sL E h55 1 a57 xv3 y54 fun h58 =>
 rI 1 xv3 fun x61 =>
 m_X4_read_L116 E a0 (some a38) (xv2 + (2 + x61)) xv3 h58 kc ks (fun a0k rv1k xv2k xv3k hk kck ksk => m_X4_read_L60 n E a0k rv1k xv2k xv3k hk kck ksk Q) Q))))))))
def m_X4_read (E : Ev) (a0 : Nat) (rp1 : Option Nat) (h : Hp) (kc ks : Nat) (Q : Int32 → Hp → Prop) : Prop := gI h a0 5 4 fun x2 =>
  br (x2 = 0) (Q 0 h) (gR h a0 5 5 fun r5 =>
  nN r5 fun a7 => aI E h 0 a7 0 fun x8 =>
  br (x8 < 1) (Q 0 h) (gR h a0 5 5 fun r11 =>
  nN r11 fun a13 => aI E h 0 a13 0 fun x14 =>
  br (x14 ≤ 11) (gR h a0 5 5 fun r17 =>
  nN r17 fun a19 => aI E h 0 a19 0 fun x20 =>
  nN rp1 fun a22 => pV h a22 3 0 (.int x20) fun h23 =>
  gI h23 a0 5 0 fun x25 =>
  pV h23 a22 3 1 (.int x25) fun h27 =>
  gI h27 a0 5 1 fun x29 =>
  pV h27 a22 3 2 (.int x29) fun h31 =>
  ∃ n32, m_X4_read_L60 n32 E a0 (some a22) 1 1 h31 kc ks Q) (Q 0 h)))
def m_X7_init (E : Ev) (a0 : Nat) (h : Hp) (kc ks : Nat) (Q : Hp → Prop) : Prop := nO h kc ks 0 3 [.int 0, .null, .int 0] fun a3 h4 kc5 ks6 =>
  m_Jx4a65c_init_da8c8 E a3 h4 0 0 (fun h9 =>
 pV h9 a0 8 0 (.ref a3) fun h11 =>
 nA E h11 kc5 ks6 1 8 8 (fun N => (N, .inr (.inl (fun _ => 0)))) fun a13 h14 kc15 ks16 =>
 pV h14 a0 8 1 (.ref a13) fun h18 =>
 Q h18)
def m_X8_init (E : Ev) (a0 : Nat) (rp1 : Option Nat) (xp2 : Int32) (yp3 : Int64) (yp5 : Int64) (h : Hp) (kc ks : Nat) (Q : Hp → Prop) : Prop := nO h kc ks 0 3 [.int 0, .null, .int 0] fun a3 h4 kc5 ks6 =>
  m_Jx4a65c_init_da8c8 E a3 h4 0 0 (fun h9 =>
 pV h9 a0 9 4 (.ref a3) fun h11 =>
 pV h11 a0 9 5 (.int 0) fun h13 =>
 nO h13 kc5 ks6 6 8 [.int 0, .int 0, .long 0, .long 0, .int 0, .int 0, .int 0, .long 0] fun a15 h16 kc17 ks18 =>
 m_X5_init E a15 h16 0 0 (fun h21 =>
 pV h21 a0 9 9 (.ref a15) fun h23 =>
 pV h23 a0 9 12 (.int 0) fun h25 =>
 pV h25 a0 9 0 (va_rf rp1) fun h27 =>
 pV h27 a0 9 1 (.int xp2) fun h29 =>
 pV h29 a0 9 2 (.long yp3) fun h31 =>
 pV h31 a0 9 3 (.long yp5) fun h33 =>
 pV h33 a0 9 6 (.long ((12345 + xp2).toInt64)) fun h35 =>
 Q h35))
def m_X8_waitFor (E : Ev) (a0 : Nat) (xp1 : Int32) (h : Hp) (kc ks : Nat) (Q : Hp → Prop) : Prop := pV h a0 9 12 (.int xp1) fun h2 =>
  pV h2 a0 9 13 (.int 0) fun h4 =>
  Q h4
def m_X8_sendToCard (E : Ev) (a0 : Nat) (xp1 : Int32) (xp2 : Int32) (h : Hp) (kc ks : Nat) (Q : Hp → Prop) : Prop := gR h a0 9 0 fun r2 =>
  gI h a0 9 1 fun x4 =>
  gI h a0 9 7 fun x6 =>
  nN r2 fun a14 => isO h a14 11 (cK kc ks fun mc8 ms9 kc10 ks11 => m_X10_send E a14 xp1 1 x4 0 x6 h mc8 ms9 (fun x12 h13 =>
 isO h13 a0 9 (m_X8_waitFor E a0 xp2 h13 0 0 (fun h17 =>
 Q h17))))
def m_X8_start (E : Ev) (a0 : Nat) (xp1 : Int32) (yp2 : Int64) (xp4 : Int32) (h : Hp) (kc ks : Nat) (Q : Int32 → Hp → Prop) : Prop := gL h a0 9 6 fun y2 =>
  ∀ y3 : Int64, y3 = ((y2 * 1103515245) + 12345) - ((y2 * 1103515245) + 12345) / 2147483648 * 2147483648 → pV h a0 9 6 (.long y3) fun h6 =>
  pV h6 a0 9 7 (.int xp1) fun h8 =>
  pV h8 a0 9 8 (.int xp4) fun h10 =>
  pV h10 a0 9 5 (.int 0) fun h12 =>
  nO h12 kc ks 6 8 [.int 0, .int 0, .long 0, .long 0, .int 0, .int 0, .int 0, .long 0] fun a14 h15 kc16 ks17 =>
  m_X5_init E a14 h15 0 0 (fun h20 =>
 pV h20 a0 9 9 (.ref a14) fun h22 =>
 gR h22 a0 9 9 fun r24 =>
 gI h22 a0 9 1 fun x26 =>
 nN r24 fun a28 => pV h22 a28 6 4 (.int x26) fun h29 =>
 gR h29 a0 9 9 fun r31 =>
 nN r31 fun a33 => pV h29 a33 6 2 (.long yp2) fun h34 =>
 gR h34 a0 9 9 fun r36 =>
 gL h34 a0 9 6 fun y38 =>
 nN r36 fun a40 => pV h34 a40 6 3 (.long y38) fun h41 =>
 gR h41 a0 9 0 fun r43 =>
 nN r43 fun a45 => gR h41 a45 11 4 fun r46 =>
 gR h41 a0 9 9 fun r48 =>
 nN r46 fun a56 => isO h41 a56 0 (cK kc16 ks17 fun mc50 ms51 kc52 ks53 => m_Jx4a65c_add_9ea2d E a56 r48 h41 mc50 ms51 (fun x54 h55 =>
 gR h55 a0 9 0 fun r58 =>
 nN r58 fun a60 => gR h55 a60 11 7 fun r61 =>
 nN r61 fun a63 => gR h55 a63 3 3 fun r64 =>
 gL h55 a0 9 6 fun y66 =>
 nN r64 fun a68 => sL E h55 1 a68 4 y66 fun h69 =>
 isO h69 a0 9 (cK kc52 ks53 fun mc71 ms72 kc73 ks74 => m_X8_sendToCard E a0 1 2 h69 mc71 ms72 (fun h76 =>
 gL h76 a0 9 6 fun y78 =>
 Q y78.toInt32 h76)))))
def m_X10_isCard (E : Ev) (a0 : Nat) (xp1 : Int32) (h : Hp) (kc ks : Nat) (Q : Int32 → Hp → Prop) : Prop := br (xp1 < 0) (Q 0 h) (gR h a0 11 2 fun r3 =>
  nN r3 fun a7 => isO h a7 0 (m_Jx4a65c_size_8abf5 E a7 h 0 0 (fun x5 h6 =>
 br (x5 ≤ xp1) (Q 0 h6) (Q 1 h6))))
def m_X8_end (E : Ev) (a0 : Nat) (xp1 : Int32) (h : Hp) (kc ks : Nat) (Q : Hp → Prop) : Prop := pV h a0 9 5 (.int xp1) fun h2 =>
  pV h2 a0 9 12 (.int 0) fun h4 =>
  Q h4
def m_X8_ask_L97 (E : Ev) (a0 : Nat) (s0 : Int64) (s1 : Int32) (s2 : Option Nat) (h : Hp) (kc ks : Nat) (Q : Hp → Prop) : Prop := nN s2 fun a68 => sL E h 1 a68 s1 s0 fun h69 =>
  isO h69 a0 9 (cK kc ks fun mc71 ms72 kc73 ks74 => m_X8_sendToCard E a0 5 6 h69 mc71 ms72 (fun h76 =>
 Q h76))
def m_X8_ask (E : Ev) (a0 : Nat) (xp1 : Int32) (h : Hp) (kc ks : Nat) (Q : Hp → Prop) : Prop := gR h a0 9 9 fun r2 =>
  nN r2 fun a4 => pV h a4 6 5 (.int xp1) fun h5 =>
  gR h5 a0 9 0 fun r7 =>
  nN r7 fun a9 => gR h5 a9 11 7 fun r10 =>
  nN r10 fun a12 => gR h5 a12 3 3 fun r13 =>
  gR h5 a0 9 9 fun r15 =>
  nN r15 fun a17 => gL h5 a17 6 2 fun y18 =>
  nN r13 fun a20 => sL E h5 1 a20 3 y18 fun h21 =>
  gR h21 a0 9 0 fun r23 =>
  nN r23 fun a25 => gR h21 a25 11 7 fun r26 =>
  nN r26 fun a28 => gR h21 a28 3 3 fun r29 =>
  gR h21 a0 9 9 fun r31 =>
  nN r31 fun a33 => gL h21 a33 6 3 fun y34 =>
  nN r29 fun a36 => sL E h21 1 a36 4 y34 fun h37 =>
  gR h37 a0 9 0 fun r39 =>
  nN r39 fun a41 => gR h37 a41 11 7 fun r42 =>
  nN r42 fun a44 => gR h37 a44 3 3 fun r45 =>
  gI h37 a0 9 1 fun x47 =>
  nN r45 fun a49 => sL E h37 1 a49 5 x47.toInt64 fun h50 =>
  gR h50 a0 9 0 fun r52 =>
  nN r52 fun a54 => gR h50 a54 11 7 fun r55 =>
  nN r55 fun a57 => gR h50 a57 3 3 fun r58 =>
  gR h50 a0 9 9 fun r60 =>
  nN r60 fun a62 => gL h50 a62 6 2 fun y63 =>
  gL h50 a0 9 2 fun y65 =>
  br (0 < (lg_cmp y63 y65)) (m_X8_ask_L97 E a0 1 7 r58 h50 kc ks Q) (m_X8_ask_L97 E a0 2 7 r58 h50 kc ks Q)
def m_X8_takeCard_L55 (E : Ev) (a0 : Nat) (h : Hp) (kc ks : Nat) (Q : Hp → Prop) : Prop := isO h a0 9 (m_X8_end E a0 3 h 0 0 (fun h83 =>
 Q h83))
def m_X8_takeCard (E : Ev) (a0 : Nat) (rp1 : Option Nat) (h : Hp) (kc ks : Nat) (Q : Hp → Prop) : Prop := nN rp1 fun a4 => isO h a4 3 (m_X2_intField E a4 1 h 0 0 (fun x2 h3 =>
 isO h3 a4 3 (m_X2_intField E a4 2 h3 0 0 (fun x6 h7 =>
 gR h7 a0 9 0 fun r9 =>
 nN r9 fun a13 => isO h7 a13 11 (m_X10_isCard E a13 x2 h7 0 0 (fun x11 h12 =>
 br (x11 = 0) (m_X8_takeCard_L55 E a0 h12 kc ks Q) (gR h12 a0 9 0 fun r16 =>
 nN r16 fun a18 => gR h12 a18 11 1 fun r19 =>
 gR h12 a0 9 9 fun r21 =>
 nN r21 fun a23 => gL h12 a23 6 3 fun y24 =>
 nN r19 fun a28 => isO h12 a28 8 (m_X7_ofCard E a28 x2 x6 y24 h12 0 0 (fun r26 h27 =>
 gR h27 a4 3 3 fun r30 =>
 nN r30 fun a32 => aL E h27 1 a32 8 fun y33 =>
 nN r26 fun a37 => isO h27 a37 8 (m_X7_isGood E a37 y33 h27 0 0 (fun x35 h36 =>
 br (x35 = 0) (m_X8_takeCard_L55 E a0 h36 kc ks Q) (gR h36 a0 9 9 fun r40 =>
 nN r40 fun a42 => pV h36 a42 6 0 (.int x2) fun h43 =>
 pV h43 a0 9 10 (.int x6) fun h45 =>
 gR h45 a0 9 9 fun r47 =>
 nN r47 fun a49 => gL h45 a49 6 2 fun y50 =>
 gL h45 a0 9 3 fun y52 =>
 br ((lg_cmp y50 y52) < 0) (isO h45 a0 9 (cK kc ks fun mc55 ms56 kc57 ks58 => m_X8_ask E a0 0 h45 mc55 ms56 (fun h60 =>
 Q h60))) (gR h45 a0 9 0 fun r62 =>
 nN r62 fun a64 => gR h45 a64 11 7 fun r65 =>
 nN r65 fun a67 => gR h45 a67 3 3 fun r68 =>
 gI h45 a0 9 8 fun x70 =>
 nN r68 fun a72 => sL E h45 1 a72 9 x70.toInt64 fun h73 =>
 isO h73 a0 9 (cK kc ks fun mc75 ms76 kc77 ks78 => m_X8_sendToCard E a0 3 4 h73 mc75 ms76 (fun h80 =>
 Q h80)))))))))))))))
def m_X8_takePinned (E : Ev) (a0 : Nat) (rp1 : Option Nat) (h : Hp) (kc ks : Nat) (Q : Hp → Prop) : Prop := nN rp1 fun a2 => gR h a2 3 3 fun r3 =>
  nN r3 fun a5 => aL E h 1 a5 6 fun y6 =>
  br ((lg_cmp y6 1) = 0) (isO h a0 9 (cK kc ks fun mc12 ms13 kc14 ks15 => m_X8_ask E a0 1 h mc12 ms13 (fun h17 =>
 Q h17))) (isO h a0 9 (m_X8_end E a0 3 h 0 0 (fun h10 =>
 Q h10)))
def m_X8_sendToHost (E : Ev) (a0 : Nat) (xp1 : Int32) (rp2 : Option Nat) (h : Hp) (kc ks : Nat) (Q : Int32 → Hp → Prop) : Prop := gR h a0 9 0 fun r2 =>
  nN r2 fun a4 => gR h a4 11 7 fun r5 =>
  nN r5 fun a7 => gR h a7 3 3 fun r8 =>
  nN rp2 fun a10 => gI h a10 6 0 fun x11 =>
  nN r8 fun a13 => sL E h 1 a13 1 x11.toInt64 fun h14 =>
  gI h14 a10 6 1 fun x16 =>
  sL E h14 1 a13 2 x16.toInt64 fun h18 =>
  gL h18 a10 6 2 fun y20 =>
  sL E h18 1 a13 3 y20 fun h22 =>
  gL h22 a10 6 3 fun y24 =>
  sL E h22 1 a13 4 y24 fun h26 =>
  gI h26 a0 9 1 fun x28 =>
  sL E h26 1 a13 5 x28.toInt64 fun h30 =>
  gI h30 a10 6 5 fun x32 =>
  sL E h30 1 a13 6 x32.toInt64 fun h34 =>
  gL h34 a10 6 7 fun y36 =>
  sL E h34 1 a13 8 y36 fun h38 =>
  gR h38 a0 9 0 fun r40 =>
  nN r40 fun a42 => gR h38 a42 11 1 fun r43 =>
  nN r43 fun a47 => isO h38 a47 8 (m_X7_ofTerminal E a47 xp1 (some a10) h38 0 0 (fun r45 h46 =>
 nN r45 fun a55 => isO h46 a55 8 (cK kc ks fun mc49 ms50 kc51 ks52 => m_X7_seal E a55 h46 mc49 ms50 (fun y53 h54 =>
 sL E h54 1 a13 11 y53 fun h57 =>
 gR h57 a0 9 0 fun r59 =>
 gI h57 a0 9 1 fun x61 =>
 nN r59 fun a69 => isO h57 a69 11 (cK kc51 ks52 fun mc63 ms64 kc65 ks66 => m_X10_send E a69 xp1 1 x61 2 0 h57 mc63 ms64 (fun x67 h68 =>
 ((x67 = 0 ∨ x67 = 1) ∧ Q x67 h68)))))))
def m_X8_isGoodWithoutHost (E : Ev) (a0 : Nat) (rp1 : Option Nat) (h : Hp) (kc ks : Nat) (Q : Int32 → Hp → Prop) : Prop := gR h a0 9 9 fun r2 =>
  nN r2 fun a4 => gI h a4 6 1 fun x5 =>
  gI h a0 9 10 fun x7 =>
  br (x5 = x7) (nN rp1 fun a10 => gR h a10 3 3 fun r11 =>
  nN r11 fun a13 => aL E h 1 a13 6 fun y14 =>
  gR h a0 9 9 fun r16 =>
  nN r16 fun a18 => gI h a18 6 5 fun x19 =>
  br ((lg_cmp y14 x19.toInt64) = 0) (gR h a0 9 0 fun r22 =>
  nN r22 fun a24 => gR h a24 11 1 fun r25 =>
  gR h a0 9 9 fun r27 =>
  nN r25 fun a31 => isO h a31 8 (m_X7_ofAnswer E a31 r27 h 0 0 (fun r29 h30 =>
 gR h30 a0 9 9 fun r33 =>
 nN r33 fun a35 => gL h30 a35 6 7 fun y36 =>
 nN r29 fun a40 => isO h30 a40 8 (m_X7_isGood E a40 y36 h30 0 0 (fun x38 h39 =>
 br (x38 = 0) (Q 0 h39) (Q 1 h39)))))) (Q 0 h)) (Q 0 h)
def m_X8_takeAnswer_L109 (E : Ev) (a0 : Nat) (h : Hp) (kc ks : Nat) (Q : Hp → Prop) : Prop := isO h a0 9 (m_X8_end E a0 3 h 0 0 (fun h73 =>
 Q h73))
def m_X8_takeAnswer (E : Ev) (a0 : Nat) (rp1 : Option Nat) (h : Hp) (kc ks : Nat) (Q : Hp → Prop) : Prop := gR h a0 9 9 fun r2 =>
  nN rp1 fun a6 => isO h a6 3 (m_X2_intField E a6 2 h 0 0 (fun x4 h5 =>
 nN r2 fun a8 => pV h5 a8 6 1 (.int x4) fun h9 =>
 gR h9 a0 9 9 fun r11 =>
 isO h9 a6 3 (m_X2_intField E a6 7 h9 0 0 (fun x13 h14 =>
 nN r11 fun a16 => pV h14 a16 6 6 (.int x13) fun h17 =>
 gR h17 a0 9 9 fun r19 =>
 gR h17 a6 3 3 fun r21 =>
 nN r21 fun a23 => aL E h17 1 a23 8 fun y24 =>
 nN r19 fun a26 => pV h17 a26 6 7 (.long y24) fun h27 =>
 gR h27 a0 9 9 fun r29 =>
 nN r29 fun a31 => gI h27 a31 6 6 fun x32 =>
 br (x32 = 1) (gR h27 a0 9 9 fun r60 =>
 isO h27 a0 9 (cK kc ks fun mc62 ms63 kc64 ks65 => m_X8_sendToHost E a0 7 r60 h27 mc62 ms63 (fun x66 h67 =>
 isO h67 a0 9 (m_X8_waitFor E a0 8 h67 0 0 (fun h70 =>
 Q h70))))) (gR h27 a0 9 9 fun r35 =>
 nN r35 fun a37 => gI h27 a37 6 6 fun x38 =>
 br (x38 = 2) (isO h27 a0 9 (m_X8_isGoodWithoutHost E a0 (some a6) h27 0 0 (fun x41 h42 =>
 br (x41 = 0) (m_X8_takeAnswer_L109 E a0 h42 kc ks Q) (gR h42 a0 9 4 fun r45 =>
 gR h42 a0 9 9 fun r47 =>
 nN r45 fun a55 => isO h42 a55 0 (cK kc ks fun mc49 ms50 kc51 ks52 => m_Jx4a65c_add_9ea2d E a55 r47 h42 mc49 ms50 (fun x53 h54 =>
 isO h54 a0 9 (m_X8_end E a0 2 h54 0 0 (fun h58 =>
 Q h58)))))))) (m_X8_takeAnswer_L109 E a0 h27 kc ks Q))))))
def m_X8_takesWord (E : Ev) (a0 : Nat) (rp1 : Option Nat) (h : Hp) (kc ks : Nat) (Q : Int32 → Hp → Prop) : Prop := nN rp1 fun a4 => isO h a4 3 (m_X2_intField E a4 10 h 0 0 (fun x2 h3 =>
 gR h3 a4 3 3 fun r6 =>
 nN r6 fun a8 => aL E h3 1 a8 1 fun y9 =>
 gR h3 a0 9 9 fun r11 =>
 nN r11 fun a13 => gI h3 a13 6 0 fun x14 =>
 br ((lg_cmp y9 x14.toInt64) = 0) (gR h3 a4 3 3 fun r17 =>
 nN r17 fun a19 => aL E h3 1 a19 2 fun y20 =>
 gR h3 a0 9 9 fun r22 =>
 nN r22 fun a24 => gI h3 a24 6 1 fun x25 =>
 br ((lg_cmp y20 x25.toInt64) = 0) (gR h3 a0 9 0 fun r28 =>
 nN r28 fun a30 => gR h3 a30 11 1 fun r31 =>
 gR h3 a0 9 9 fun r33 =>
 nN r31 fun a37 => isO h3 a37 8 (m_X7_ofWordToTerminal E a37 r33 x2 h3 0 0 (fun r35 h36 =>
 gR h36 a4 3 3 fun r39 =>
 nN r39 fun a41 => aL E h36 1 a41 11 fun y42 =>
 nN r35 fun a46 => isO h36 a46 8 (m_X7_isGood E a46 y42 h36 0 0 (fun x44 h45 =>
 br (x44 = 0) (Q 0 h45) (pV h45 a0 9 11 (.int x2) fun h49 =>
 gR h49 a0 9 0 fun r51 =>
 nN r51 fun a53 => gR h49 a53 11 7 fun r54 =>
 nN r54 fun a56 => gR h49 a56 3 3 fun r57 =>
 gI h49 a0 9 11 fun x59 =>
 nN r57 fun a61 => sL E h49 1 a61 10 x59.toInt64 fun h62 =>
 gR h62 a0 9 0 fun r64 =>
 nN r64 fun a66 => gR h62 a66 11 7 fun r67 =>
 nN r67 fun a69 => gR h62 a69 3 3 fun r70 =>
 gR h62 a4 3 3 fun r72 =>
 nN r72 fun a74 => aL E h62 1 a74 8 fun y75 =>
 nN r70 fun a77 => sL E h62 1 a77 8 y75 fun h78 =>
 isO h78 a0 9 (cK kc ks fun mc80 ms81 kc82 ks83 => m_X8_sendToCard E a0 9 10 h78 mc80 ms81 (fun h85 =>
 Q 1 h85)))))))) (Q 0 h3)) (Q 0 h3)))
def m_X8_takeLast_L66 (E : Ev) (s0 : Int32) (s1 : Option Nat) (h : Hp) (kc ks : Nat) (Q : Hp → Prop) : Prop := nN s1 fun a36 => isO h a36 9 (m_X8_end E a36 s0 h 0 0 (fun h35 =>
 Q h35))
def m_X8_takeLast_L55 (E : Ev) (a0 : Nat) (s0 : Int32) (h : Hp) (kc ks : Nat) (Q : Hp → Prop) : Prop := br (s0 = 0) (m_X8_takeLast_L66 E 3 (some a0) h kc ks Q) (m_X8_takeLast_L66 E 1 (some a0) h kc ks Q)
def m_X8_takeLast_L54 (E : Ev) (a0 : Nat) (h : Hp) (kc ks : Nat) (Q : Hp → Prop) : Prop := m_X8_takeLast_L55 E a0 0 h kc ks Q
def m_X8_takeLast (E : Ev) (a0 : Nat) (rp1 : Option Nat) (h : Hp) (kc ks : Nat) (Q : Hp → Prop) : Prop := gI h a0 9 11 fun x2 =>
  br (x2 = 1) (nN rp1 fun a5 => gR h a5 3 3 fun r6 =>
  nN r6 fun a8 => aL E h 1 a8 7 fun y9 =>
  br ((lg_cmp y9 2) = 0) (gR h a0 9 0 fun r12 =>
  nN r12 fun a14 => gR h a14 11 1 fun r15 =>
  gR h a0 9 9 fun r17 =>
  nN r15 fun a21 => isO h a21 8 (m_X7_ofLast E a21 r17 2 h 0 0 (fun r19 h20 =>
 gR h20 a5 3 3 fun r23 =>
 nN r23 fun a25 => aL E h20 1 a25 8 fun y26 =>
 nN r19 fun a30 => isO h20 a30 8 (m_X7_isGood E a30 y26 h20 0 0 (fun x28 h29 =>
 br (x28 = 0) (m_X8_takeLast_L54 E a0 h29 kc ks Q) (m_X8_takeLast_L55 E a0 1 h29 kc ks Q)))))) (m_X8_takeLast_L54 E a0 h kc ks Q)) (m_X8_takeLast_L54 E a0 h kc ks Q)
def m_X8_takes (E : Ev) (a0 : Nat) (rp1 : Option Nat) (h : Hp) (kc ks : Nat) (Q : Int32 → Hp → Prop) : Prop := nN rp1 fun a2 => gI h a2 3 0 fun x3 =>
  gI h a0 9 12 fun x5 =>
  br (x3 = x5) (gI h a2 3 0 fun x8 =>
  br (x8 = 2) (isO h a0 9 (cK kc ks fun mc10 ms11 kc12 ks13 => m_X8_takeCard E a0 (some a2) h mc10 ms11 (fun h15 =>
 Q 1 h15))) (br (x8 = 4) (isO h a0 9 (cK kc ks fun mc17 ms18 kc19 ks20 => m_X8_takePinned E a0 (some a2) h mc17 ms18 (fun h22 =>
 Q 1 h22))) (br (x8 = 6) (isO h a0 9 (cK kc ks fun mc24 ms25 kc26 ks27 => m_X8_takeAnswer E a0 (some a2) h mc24 ms25 (fun h29 =>
 Q 1 h29))) (br (x8 = 8) (isO h a0 9 (cK kc ks fun mc31 ms32 kc33 ks34 => m_X8_takesWord E a0 (some a2) h mc31 ms32 (fun x35 h36 =>
 ((x35 = 0 ∨ x35 = 1) ∧ Q x35 h36)))) (br (x8 = 10) (isO h a0 9 (m_X8_takeLast E a0 (some a2) h 0 0 (fun h39 =>
 Q 1 h39))) (Q 0 h)))))) (Q 0 h)
def m_Jx4a65c_clear_da8c8_L27 (n : Nat) (E : Ev) (rv1 : Option Nat) (xv2 : Int32) (xv3 : Int32) (h : Hp) (kc ks : Nat) (Q : Hp → Prop) : Prop := match n with
  | 0 => False
  | n + 1 => br (xv2 ≤ xv3) (Q h) (nN rv1 fun a14 => sR E h 4 a14 xv3 none fun h15 =>
  m_Jx4a65c_clear_da8c8_L27 n E (some a14) xv2 (xv3 + 1) h15 kc ks Q)
def m_Jx4a65c_clear_da8c8 (E : Ev) (a0 : Nat) (h : Hp) (kc ks : Nat) (Q : Hp → Prop) : Prop := gI h a0 0 0 fun x2 =>
  pV h a0 0 0 (.int (x2 + 1)) fun h4 =>
  gR h4 a0 0 1 fun r6 =>
  gI h4 a0 0 2 fun x8 =>
  pV h4 a0 0 2 (.int 0) fun h10 =>
  ∃ n11, m_Jx4a65c_clear_da8c8_L27 n11 E r6 x8 0 h10 kc ks Q
def m_X8_sendBatch_L38 (E : Ev) (a0 : Nat) (xv1 : Int32) (xv2 : Int32) (h : Hp) (kc ks : Nat) (K4 : Nat → Int32 → Int32 → Hp → Nat → Nat → Prop) (Q : Int32 → Hp → Prop) : Prop := K4 a0 xv1 (xv2 + 1) h kc ks
def m_X8_sendBatch_L4 (n : Nat) (E : Ev) (a0 : Nat) (xv1 : Int32) (xv2 : Int32) (h : Hp) (kc ks : Nat) (Q : Int32 → Hp → Prop) : Prop := match n with
  | 0 => False
  | n + 1 => gR h a0 9 4 fun r3 =>
  nN r3 fun a7 => isO h a7 0 (m_Jx4a65c_size_8abf5 E a7 h 0 0 (fun x5 h6 =>
 br (x5 ≤ xv2) (gR h6 a0 9 4 fun r10 =>
 nN r10 fun a14 => isO h6 a14 0 (m_Jx4a65c_clear_da8c8 E a14 h6 0 0 (fun h13 =>
 Q xv1 h13))) (gR h6 a0 9 4 fun r16 =>
 nN r16 fun a20 => isO h6 a20 0 (m_Jx4a65c_get_915e3 E a20 xv2 h6 0 0 (fun r18 h19 =>
 nN r18 fun a22 => isO h19 a22 6 (isO h19 a0 9 (cK kc ks fun mc24 ms25 kc26 ks27 => m_X8_sendToHost E a0 11 (some a22) h19 mc24 ms25 (fun x28 h29 =>
 br (x28 = 0) (m_X8_sendBatch_L38 E a0 xv1 xv2 h29 kc26 ks27 (fun a0k xv1k xv2k hk kck ksk => m_X8_sendBatch_L4 n E a0k xv1k xv2k hk kck ksk Q) Q) (m_X8_sendBatch_L38 E a0 (xv1 + 1) xv2 h29 kc26 ks27 (fun a0k xv1k xv2k hk kck ksk => m_X8_sendBatch_L4 n E a0k xv1k xv2k hk kck ksk Q) Q)))))))))
def m_X8_sendBatch (E : Ev) (a0 : Nat) (h : Hp) (kc ks : Nat) (Q : Int32 → Hp → Prop) : Prop := ∃ n1, m_X8_sendBatch_L4 n1 E a0 0 0 h kc ks Q
def m_X8_givesUpAfter (E : Ev) (a0 : Nat) (xp1 : Int32) (h : Hp) (kc ks : Nat) (Q : Int32 → Hp → Prop) : Prop := gI h a0 9 12 fun x2 =>
  br (x2 = 0) (Q 0 h) (gI h a0 9 13 fun x5 =>
  pV h a0 9 13 (.int (x5 + xp1)) fun h7 =>
  gI h7 a0 9 13 fun x9 =>
  br (20 < x9) (isO h7 a0 9 (m_X8_end E a0 4 h7 0 0 (fun h13 =>
 Q 1 h13))) (Q 0 h7))
def m_X9_init (E : Ev) (a0 : Nat) (h : Hp) (kc ks : Nat) (Q : Hp → Prop) : Prop := nA E h kc ks 3 4 60 (fun N => (N, .inr (.inr (.inr (.inr (fun _ => none)))))) fun a3 h4 kc5 ks6 =>
  pV h4 a0 10 0 (.ref a3) fun h8 =>
  Q h8
def m_X9_get_L21 (E : Ev)  (h : Hp) (kc ks : Nat) (Q : Option Nat → Hp → Prop) : Prop := Q none h
def m_X9_get (E : Ev) (a0 : Nat) (xp1 : Int32) (h : Hp) (kc ks : Nat) (Q : Option Nat → Hp → Prop) : Prop := br (xp1 < 0) (m_X9_get_L21 E  h kc ks Q) (gI h a0 10 1 fun x3 =>
  br (x3 ≤ xp1) (m_X9_get_L21 E  h kc ks Q) (gR h a0 10 0 fun r6 =>
  nN r6 fun a8 => aR E h 3 a8 xp1 fun r9 =>
  Q r9 h))
def m_X9_takeOff_L14 (n : Nat) (E : Ev) (a0 : Nat) (rv2 : Option Nat) (xv3 : Int32) (h : Hp) (kc ks : Nat) (Q : Option Nat → Hp → Prop) : Prop := match n with
  | 0 => False
  | n + 1 => gI h a0 10 1 fun x8 =>
  br (x8 ≤ (xv3 + 1)) (gI h a0 10 1 fun x11 =>
  pV h a0 10 1 (.int (x11 - 1)) fun h13 =>
  gR h13 a0 10 0 fun r15 =>
  gI h13 a0 10 1 fun x17 =>
  nN rv2 fun a19 => nN r15 fun a20 => isO h13 a19 5 (sR E h13 3 a20 x17 (some a19) fun h21 =>
  Q (some a19) h21)) (gR h a0 10 0 fun r23 =>
  gR h a0 10 0 fun r25 =>
  nN r25 fun a27 => aR E h 3 a27 (xv3 + 1) fun r28 =>
  nN r28 fun a30 => nN r23 fun a31 => isO h a30 5 (sR E h 3 a31 xv3 (some a30) fun h32 =>
  m_X9_takeOff_L14 n E a0 rv2 (xv3 + 1) h32 kc ks Q))
def m_X9_takeOff (E : Ev) (a0 : Nat) (xp1 : Int32) (h : Hp) (kc ks : Nat) (Q : Option Nat → Hp → Prop) : Prop := isO h a0 10 (m_X9_get E a0 xp1 h 0 0 (fun r2 h3 =>
 brN r2 (Q none h3) (fun a5 => ∃ n6, m_X9_takeOff_L14 n6 E a0 (some a5) xp1 h3 kc ks Q)))
def m_X10_init (E : Ev) (a0 : Nat) (h : Hp) (kc ks : Nat) (Q : Hp → Prop) : Prop := nO h kc ks 10 2 [.null, .int 0] fun a3 h4 kc5 ks6 =>
  cK kc5 ks6 fun mc8 ms9 kc10 ks11 => m_X9_init E a3 h4 mc8 ms9 (fun h13 =>
 pV h13 a0 11 0 (.ref a3) fun h15 =>
 nO h15 kc10 ks11 8 5 [.null, .null, .int 0, .int 0, .int 0] fun a17 h18 kc19 ks20 =>
 cK kc19 ks20 fun mc22 ms23 kc24 ks25 => m_X7_init E a17 h18 mc22 ms23 (fun h27 =>
 pV h27 a0 11 1 (.ref a17) fun h29 =>
 nO h29 kc24 ks25 0 3 [.int 0, .null, .int 0] fun a31 h32 kc33 ks34 =>
 m_Jx4a65c_init_da8c8 E a31 h32 0 0 (fun h37 =>
 pV h37 a0 11 2 (.ref a31) fun h39 =>
 nO h39 kc33 ks34 0 3 [.int 0, .null, .int 0] fun a41 h42 kc43 ks44 =>
 m_Jx4a65c_init_da8c8 E a41 h42 0 0 (fun h47 =>
 pV h47 a0 11 3 (.ref a41) fun h49 =>
 nO h49 kc43 ks44 0 3 [.int 0, .null, .int 0] fun a51 h52 kc53 ks54 =>
 m_Jx4a65c_init_da8c8 E a51 h52 0 0 (fun h57 =>
 pV h57 a0 11 4 (.ref a51) fun h59 =>
 nO h59 kc53 ks54 0 3 [.int 0, .null, .int 0] fun a61 h62 kc63 ks64 =>
 m_Jx4a65c_init_da8c8 E a61 h62 0 0 (fun h67 =>
 pV h67 a0 11 5 (.ref a61) fun h69 =>
 nO h69 kc63 ks64 3 4 [.int 0, .int 0, .int 0, .null] fun a71 h72 kc73 ks74 =>
 cK kc73 ks74 fun mc76 ms77 kc78 ks79 => m_X2_init E a71 h72 mc76 ms77 (fun h81 =>
 pV h81 a0 11 6 (.ref a71) fun h83 =>
 nO h83 kc78 ks79 3 4 [.int 0, .int 0, .int 0, .null] fun a85 h86 kc87 ks88 =>
 cK kc87 ks88 fun mc90 ms91 kc92 ks93 => m_X2_init E a85 h86 mc90 ms91 (fun h95 =>
 pV h95 a0 11 7 (.ref a85) fun h97 =>
 Q h97))))))))
def m_X10_isSomebody (E : Ev) (a0 : Nat) (xp1 : Int32) (xp2 : Int32) (h : Hp) (kc ks : Nat) (Q : Int32 → Hp → Prop) : Prop := br (xp1 = 0) (isO h a0 11 (m_X10_isCard E a0 xp2 h 0 0 (fun x2 h3 =>
 ((x2 = 0 ∨ x2 = 1) ∧ Q x2 h3)))) (br (xp1 = 1) (isO h a0 11 (m_X10_isTerminal E a0 xp2 h 0 0 (fun x5 h6 =>
 ((x5 = 0 ∨ x5 = 1) ∧ Q x5 h6)))) (br (xp1 = 2) (br (xp2 = 0) (Q 1 h) (Q 0 h)) (Q 0 h)))
def m_X10_purchasesLike_L69 (E : Ev) (a0 : Nat) (rv1 : Option Nat) (xv2 : Int32) (xv3 : Int32) (h : Hp) (kc ks : Nat) (K4 : Nat → Option Nat → Int32 → Int32 → Hp → Nat → Nat → Prop) (Q : Int32 → Hp → Prop) : Prop := K4 a0 rv1 xv2 (xv3 + 1) h kc ks
def m_X10_purchasesLike_L4 (n : Nat) (E : Ev) (a0 : Nat) (rv1 : Option Nat) (xv2 : Int32) (xv3 : Int32) (h : Hp) (kc ks : Nat) (Q : Int32 → Hp → Prop) : Prop := match n with
  | 0 => False
  | n + 1 => gR h a0 11 4 fun r3 =>
  nN r3 fun a7 => isO h a7 0 (m_Jx4a65c_size_8abf5 E a7 h 0 0 (fun x5 h6 =>
 br (x5 ≤ xv3) (Q xv2 h6) (gR h6 a0 11 4 fun r10 =>
 nN r10 fun a14 => isO h6 a14 0 (m_Jx4a65c_get_915e3 E a14 xv3 h6 0 0 (fun r12 h13 =>
 nN r12 fun a16 => isO h13 a16 6 (gI h13 a16 6 4 fun x18 =>
 nN rv1 fun a20 => gI h13 a20 6 4 fun x21 =>
 br (x18 = x21) (gL h13 a16 6 2 fun y24 =>
 gL h13 a20 6 2 fun y26 =>
 br ((lg_cmp y24 y26) = 0) (gL h13 a16 6 3 fun y29 =>
 gL h13 a20 6 3 fun y31 =>
 br ((lg_cmp y29 y31) = 0) (m_X10_purchasesLike_L69 E a0 (some a20) (xv2 + 1) xv3 h13 kc ks (fun a0k rv1k xv2k xv3k hk kck ksk => m_X10_purchasesLike_L4 n E a0k rv1k xv2k xv3k hk kck ksk Q) Q) (m_X10_purchasesLike_L69 E a0 (some a20) xv2 xv3 h13 kc ks (fun a0k rv1k xv2k xv3k hk kck ksk => m_X10_purchasesLike_L4 n E a0k rv1k xv2k xv3k hk kck ksk Q) Q)) (m_X10_purchasesLike_L69 E a0 (some a20) xv2 xv3 h13 kc ks (fun a0k rv1k xv2k xv3k hk kck ksk => m_X10_purchasesLike_L4 n E a0k rv1k xv2k xv3k hk kck ksk Q) Q)) (m_X10_purchasesLike_L69 E a0 (some a20) xv2 xv3 h13 kc ks (fun a0k rv1k xv2k xv3k hk kck ksk => m_X10_purchasesLike_L4 n E a0k rv1k xv2k xv3k hk kck ksk Q) Q)))))))
def m_X10_purchasesLike (E : Ev) (a0 : Nat) (rp1 : Option Nat) (h : Hp) (kc ks : Nat) (Q : Int32 → Hp → Prop) : Prop := ∃ n1, m_X10_purchasesLike_L4 n1 E a0 rp1 0 0 h kc ks Q
def m_X10_wasAnswered_L106 (E : Ev) (a0 : Nat) (rv1 : Option Nat) (xv2 : Int32) (h : Hp) (kc ks : Nat) (K2 : Nat → Option Nat → Int32 → Hp → Nat → Nat → Prop) (Q : Int32 → Hp → Prop) : Prop := K2 a0 rv1 (xv2 + 1) h kc ks
def m_X10_wasAnswered_L2 (n : Nat) (E : Ev) (a0 : Nat) (rv1 : Option Nat) (xv2 : Int32) (h : Hp) (kc ks : Nat) (Q : Int32 → Hp → Prop) : Prop := match n with
  | 0 => False
  | n + 1 => gR h a0 11 5 fun r3 =>
  nN r3 fun a7 => isO h a7 0 (m_Jx4a65c_size_8abf5 E a7 h 0 0 (fun x5 h6 =>
 br (x5 ≤ xv2) (Q 0 h6) (gR h6 a0 11 5 fun r10 =>
 nN r10 fun a14 => isO h6 a14 0 (m_Jx4a65c_get_915e3 E a14 xv2 h6 0 0 (fun r12 h13 =>
 nN r12 fun a16 => isO h13 a16 6 (gI h13 a16 6 0 fun x18 =>
 nN rv1 fun a20 => gI h13 a20 6 0 fun x21 =>
 br (x18 = x21) (gI h13 a16 6 1 fun x24 =>
 gI h13 a20 6 1 fun x26 =>
 br (x24 = x26) (gL h13 a16 6 2 fun y29 =>
 gL h13 a20 6 2 fun y31 =>
 br ((lg_cmp y29 y31) = 0) (gL h13 a16 6 3 fun y34 =>
 gL h13 a20 6 3 fun y36 =>
 br ((lg_cmp y34 y36) = 0) (gI h13 a16 6 4 fun x39 =>
 gI h13 a20 6 4 fun x41 =>
 br (x39 = x41) (gI h13 a16 6 5 fun x44 =>
 gI h13 a20 6 5 fun x46 =>
 br (x44 = x46) (gI h13 a16 6 6 fun x49 =>
 gI h13 a20 6 6 fun x51 =>
 br (x49 = x51) (Q 1 h13) (m_X10_wasAnswered_L106 E a0 (some a20) xv2 h13 kc ks (fun a0k rv1k xv2k hk kck ksk => m_X10_wasAnswered_L2 n E a0k rv1k xv2k hk kck ksk Q) Q)) (m_X10_wasAnswered_L106 E a0 (some a20) xv2 h13 kc ks (fun a0k rv1k xv2k hk kck ksk => m_X10_wasAnswered_L2 n E a0k rv1k xv2k hk kck ksk Q) Q)) (m_X10_wasAnswered_L106 E a0 (some a20) xv2 h13 kc ks (fun a0k rv1k xv2k hk kck ksk => m_X10_wasAnswered_L2 n E a0k rv1k xv2k hk kck ksk Q) Q)) (m_X10_wasAnswered_L106 E a0 (some a20) xv2 h13 kc ks (fun a0k rv1k xv2k hk kck ksk => m_X10_wasAnswered_L2 n E a0k rv1k xv2k hk kck ksk Q) Q)) (m_X10_wasAnswered_L106 E a0 (some a20) xv2 h13 kc ks (fun a0k rv1k xv2k hk kck ksk => m_X10_wasAnswered_L2 n E a0k rv1k xv2k hk kck ksk Q) Q)) (m_X10_wasAnswered_L106 E a0 (some a20) xv2 h13 kc ks (fun a0k rv1k xv2k hk kck ksk => m_X10_wasAnswered_L2 n E a0k rv1k xv2k hk kck ksk Q) Q)) (m_X10_wasAnswered_L106 E a0 (some a20) xv2 h13 kc ks (fun a0k rv1k xv2k hk kck ksk => m_X10_wasAnswered_L2 n E a0k rv1k xv2k hk kck ksk Q) Q)))))))
def m_X10_wasAnswered (E : Ev) (a0 : Nat) (rp1 : Option Nat) (h : Hp) (kc ks : Nat) (Q : Int32 → Hp → Prop) : Prop := ∃ n1, m_X10_wasAnswered_L2 n1 E a0 rp1 0 h kc ks Q
def m_X11_init (E : Ev) (a0 : Nat) (h : Hp) (kc ks : Nat) (Q : Hp → Prop) : Prop := nO h kc ks 11 8 [.null, .null, .null, .null, .null, .null, .null, .null] fun a3 h4 kc5 ks6 =>
  cK kc5 ks6 fun mc8 ms9 kc10 ks11 => m_X10_init E a3 h4 mc8 ms9 (fun h13 =>
 pV h13 a0 12 0 (.ref a3) fun h15 =>
 nO h15 kc10 ks11 4 3 [.null, .null, .null] fun a17 h18 kc19 ks20 =>
 gR h18 a0 12 0 fun r22 =>
 cK kc19 ks20 fun mc24 ms25 kc26 ks27 => m_X3_init E a17 r22 h18 mc24 ms25 (fun h29 =>
 pV h29 a0 12 1 (.ref a17) fun h31 =>
 nA E h31 kc26 ks27 0 4 64 (fun N => (N, .inl (fun _ => 0))) fun a33 h34 kc35 ks36 =>
 pV h34 a0 12 2 (.ref a33) fun h38 =>
 pV h38 a0 12 3 (.int 0) fun h40 =>
 Q h40))
def m_X11_isWithin (E : Ev) (yp0 : Int64) (yp2 : Int64) (yp4 : Int64) (h : Hp) (kc ks : Nat) (Q : Int32 → Hp → Prop) : Prop := br ((lg_cmp yp0 yp2) < 0) (Q 0 h) (br (0 < (lg_cmp yp0 yp4)) (Q 0 h) (Q 1 h))
def m_X11_card (E : Ev) (a0 : Nat) (xp1 : Int32) (yp2 : Int64) (xp4 : Int32) (yp5 : Int64) (h : Hp) (kc ks : Nat) (Q : Int32 → Hp → Prop) : Prop := gR h a0 12 0 fun r2 =>
  nN r2 fun a4 => gR h a4 11 2 fun r5 =>
  nN r5 fun a9 => isO h a9 0 (m_Jx4a65c_size_8abf5 E a9 h 0 0 (fun x7 h8 =>
 br (16 ≤ x7) (Q (-1) h8) (m_X11_isWithin E xp1.toInt64 0 9999 h8 0 0 (fun x12 h13 =>
 br (x12 = 0) (Q (-1) h13) (m_X11_isWithin E yp2 0 1000000000 h13 0 0 (fun x16 h17 =>
 br (x16 = 0) (Q (-1) h17) (m_X11_isWithin E xp4.toInt64 0 9 h17 0 0 (fun x20 h21 =>
 br (x20 = 0) (Q (-1) h21) (m_X11_isWithin E yp5 0 1000000000000 h21 0 0 (fun x24 h25 =>
 br (x24 = 0) (Q (-1) h25) (gR h25 a0 12 0 fun r28 =>
 nN r28 fun a30 => gR h25 a30 11 2 fun r31 =>
 nO h25 kc ks 2 12 [.null, .int 0, .int 0, .long 0, .int 0, .int 0, .int 0, .int 0, .int 0, .int 0, .int 0, .null] fun a33 h34 kc35 ks36 =>
 gR h34 a0 12 0 fun r38 =>
 cK kc35 ks36 fun mc40 ms41 kc42 ks43 => m_X1_init E a33 r38 x7 xp1 yp2 xp4 h34 mc40 ms41 (fun h45 =>
 nN r31 fun a53 => isO h45 a53 0 (cK kc42 ks43 fun mc47 ms48 kc49 ks50 => m_Jx4a65c_add_9ea2d E a53 (some a33) h45 mc47 ms48 (fun x51 h52 =>
 gR h52 a0 12 1 fun r55 =>
 nN r55 fun a57 => gR h52 a57 4 1 fun r58 =>
 nO h52 kc49 ks50 1 2 [.long 0, .int 0] fun a60 h61 kc62 ks63 =>
 m_X0_init E a60 yp5 h61 0 0 (fun h66 =>
 nN r58 fun a74 => isO h66 a74 0 (cK kc62 ks63 fun mc68 ms69 kc70 ks71 => m_Jx4a65c_add_9ea2d E a74 (some a60) h66 mc68 ms69 (fun x72 h73 =>
 Q x7 h73)))))))))))))))))
def m_X11_terminal (E : Ev) (a0 : Nat) (yp1 : Int64) (yp3 : Int64) (h : Hp) (kc ks : Nat) (Q : Int32 → Hp → Prop) : Prop := gR h a0 12 0 fun r2 =>
  nN r2 fun a4 => gR h a4 11 3 fun r5 =>
  nN r5 fun a9 => isO h a9 0 (m_Jx4a65c_size_8abf5 E a9 h 0 0 (fun x7 h8 =>
 br (8 ≤ x7) (Q (-1) h8) (m_X11_isWithin E yp1 0 1000000000 h8 0 0 (fun x12 h13 =>
 br (x12 = 0) (Q (-1) h13) (m_X11_isWithin E yp3 0 1000000000 h13 0 0 (fun x16 h17 =>
 br (x16 = 0) (Q (-1) h17) (gR h17 a0 12 0 fun r20 =>
 nN r20 fun a22 => gR h17 a22 11 3 fun r23 =>
 nO h17 kc ks 9 14 [.null, .int 0, .long 0, .long 0, .null, .int 0, .long 0, .int 0, .int 0, .null, .int 0, .int 0, .int 0, .int 0] fun a25 h26 kc27 ks28 =>
 gR h26 a0 12 0 fun r30 =>
 cK kc27 ks28 fun mc32 ms33 kc34 ks35 => m_X8_init E a25 r30 x7 yp1 yp3 h26 mc32 ms33 (fun h37 =>
 nN r23 fun a45 => isO h37 a45 0 (cK kc34 ks35 fun mc39 ms40 kc41 ks42 => m_Jx4a65c_add_9ea2d E a45 (some a25) h37 mc39 ms40 (fun x43 h44 =>
 Q x7 h44))))))))))
def m_X11_purchase (E : Ev) (a0 : Nat) (xp1 : Int32) (xp2 : Int32) (yp3 : Int64) (xp5 : Int32) (h : Hp) (kc ks : Nat) (Q : Int32 → Hp → Prop) : Prop := gR h a0 12 0 fun r2 =>
  nN r2 fun a6 => isO h a6 11 (m_X10_isTerminal E a6 xp1 h 0 0 (fun x4 h5 =>
 br (x4 = 0) (Q (-1) h5) (gR h5 a0 12 0 fun r9 =>
 nN r9 fun a13 => isO h5 a13 11 (m_X10_isCard E a13 xp2 h5 0 0 (fun x11 h12 =>
 br (x11 = 0) (Q (-1) h12) (m_X11_isWithin E yp3 1 1000000000 h12 0 0 (fun x16 h17 =>
 br (x16 = 0) (Q (-1) h17) (m_X11_isWithin E xp5.toInt64 0 9999 h17 0 0 (fun x20 h21 =>
 br (x20 = 0) (Q (-1) h21) (gR h21 a0 12 0 fun r24 =>
 nN r24 fun a26 => gR h21 a26 11 3 fun r27 =>
 nN r27 fun a31 => isO h21 a31 0 (m_Jx4a65c_get_915e3 E a31 xp1 h21 0 0 (fun r29 h30 =>
 nN r29 fun a33 => isO h30 a33 9 (isO h30 a33 9 (cK kc ks fun mc35 ms36 kc37 ks38 => m_X8_start E a33 xp2 yp3 xp5 h30 mc35 ms36 (fun x39 h40 =>
 Q x39 h40)))))))))))))))
def m_X11_deliver_L158 (E : Ev) (xv4 : Int32) (h : Hp) (kc ks : Nat) (Q : Int32 → Hp → Prop) : Prop := br (xv4 = 0) (Q 0 h) (Q 1 h)
def m_X11_deliver_L108 (E : Ev) (s0 : Int32) (h : Hp) (kc ks : Nat) (Q : Int32 → Hp → Prop) : Prop := m_X11_deliver_L158 E s0 h kc ks Q
def m_X11_deliver_L107 (E : Ev)  (h : Hp) (kc ks : Nat) (Q : Int32 → Hp → Prop) : Prop := m_X11_deliver_L108 E 0 h kc ks Q
def m_X11_deliver_L156 (E : Ev) (s0 : Int32) (h : Hp) (kc ks : Nat) (Q : Int32 → Hp → Prop) : Prop := m_X11_deliver_L158 E s0 h kc ks Q
def m_X11_deliver_L155 (E : Ev)  (h : Hp) (kc ks : Nat) (Q : Int32 → Hp → Prop) : Prop := m_X11_deliver_L156 E 0 h kc ks Q
def m_X11_deliver (E : Ev) (a0 : Nat) (xp1 : Int32) (h : Hp) (kc ks : Nat) (Q : Int32 → Hp → Prop) : Prop := gR h a0 12 0 fun r2 =>
  nN r2 fun a4 => gR h a4 11 0 fun r5 =>
  nN r5 fun a9 => isO h a9 10 (m_X9_takeOff E a9 xp1 h 0 0 (fun r7 h8 =>
 brN r7 (Q (-1) h8) (fun a11 => gR h8 a0 12 0 fun r13 =>
 nN r13 fun a15 => gR h8 a15 11 6 fun r16 =>
 isO h8 a11 5 (m_X4_read E a11 r16 h8 0 0 (fun x18 h19 =>
 br (x18 = 0) (Q 0 h19) (gI h19 a11 5 2 fun x22 =>
 br (x22 = 2) (gR h19 a0 12 1 fun r88 =>
 nN r88 fun a96 => isO h19 a96 4 (cK kc ks fun mc90 ms91 kc92 ks93 => m_X3_takes E a96 r16 h19 mc90 ms91 (fun x94 h95 =>
 m_X11_deliver_L158 E x94 h95 kc92 ks93 Q))) (gI h19 a11 5 2 fun x25 =>
 br (x25 = 1) (gR h19 a0 12 0 fun r58 =>
 gI h19 a11 5 3 fun x60 =>
 nN r58 fun a64 => isO h19 a64 11 (m_X10_isTerminal E a64 x60 h19 0 0 (fun x62 h63 =>
 br (x62 = 0) (m_X11_deliver_L107 E h63 kc ks Q) (gR h63 a0 12 0 fun r67 =>
 nN r67 fun a69 => gR h63 a69 11 3 fun r70 =>
 gI h63 a11 5 3 fun x72 =>
 nN r70 fun a76 => isO h63 a76 0 (m_Jx4a65c_get_915e3 E a76 x72 h63 0 0 (fun r74 h75 =>
 nN r74 fun a78 => isO h75 a78 9 (isO h75 a78 9 (cK kc ks fun mc80 ms81 kc82 ks83 => m_X8_takes E a78 r16 h75 mc80 ms81 (fun x84 h85 =>
 br (x84 = 0) (m_X11_deliver_L107 E h85 kc82 ks83 Q) (m_X11_deliver_L108 E 1 h85 kc82 ks83 Q)))))))))) (gR h19 a0 12 0 fun r28 =>
 gI h19 a11 5 3 fun x30 =>
 nN r28 fun a34 => isO h19 a34 11 (m_X10_isCard E a34 x30 h19 0 0 (fun x32 h33 =>
 br (x32 = 0) (m_X11_deliver_L155 E h33 kc ks Q) (gR h33 a0 12 0 fun r37 =>
 nN r37 fun a39 => gR h33 a39 11 2 fun r40 =>
 gI h33 a11 5 3 fun x42 =>
 nN r40 fun a46 => isO h33 a46 0 (m_Jx4a65c_get_915e3 E a46 x42 h33 0 0 (fun r44 h45 =>
 nN r44 fun a48 => isO h45 a48 2 (isO h45 a48 2 (cK kc ks fun mc50 ms51 kc52 ks53 => m_X1_takes E a48 r16 h45 mc50 ms51 (fun x54 h55 =>
 br (x54 = 0) (m_X11_deliver_L155 E h55 kc52 ks53 Q) (m_X11_deliver_L156 E 1 h55 kc52 ks53 Q)))))))))))))))))
def m_X11_alter (E : Ev) (a0 : Nat) (xp1 : Int32) (xp2 : Int32) (xp3 : Int32) (h : Hp) (kc ks : Nat) (Q : Int32 → Hp → Prop) : Prop := gR h a0 12 0 fun r2 =>
  nN r2 fun a4 => gR h a4 11 0 fun r5 =>
  nN r5 fun a9 => isO h a9 10 (m_X9_get E a9 xp1 h 0 0 (fun r7 h8 =>
 brN r7 (Q 0 h8) (fun a11 => isO h8 a11 5 (m_X4_has E a11 xp2 h8 0 0 (fun x13 h14 =>
 br (x13 = 0) (Q 0 h14) (m_X11_isWithin E xp3.toInt64 0 255 h14 0 0 (fun x17 h18 =>
 br (x17 = 0) (Q 0 h18) (gR h18 a11 5 5 fun r21 =>
 nN r21 fun a23 => sI E h18 0 a23 xp2 xp3 fun h24 =>
 Q 1 h24))))))))
def m_X11_drop (E : Ev) (a0 : Nat) (xp1 : Int32) (h : Hp) (kc ks : Nat) (Q : Int32 → Hp → Prop) : Prop := gR h a0 12 0 fun r2 =>
  nN r2 fun a4 => gR h a4 11 0 fun r5 =>
  nN r5 fun a9 => isO h a9 10 (m_X9_takeOff E a9 xp1 h 0 0 (fun r7 h8 =>
 brN r7 (Q 0 h8) (fun a11 => Q 1 h8)))
def m_X11_again (E : Ev) (a0 : Nat) (xp1 : Int32) (h : Hp) (kc ks : Nat) (Q : Int32 → Hp → Prop) : Prop := gR h a0 12 0 fun r2 =>
  nN r2 fun a4 => gR h a4 11 0 fun r5 =>
  nN r5 fun a9 => isO h a9 10 (m_X9_get E a9 xp1 h 0 0 (fun r7 h8 =>
 brN r7 (Q 0 h8) (fun a11 => gR h8 a0 12 0 fun r13 =>
 nN r13 fun a15 => gR h8 a15 11 0 fun r16 =>
 gI h8 a11 5 0 fun x18 =>
 gI h8 a11 5 1 fun x20 =>
 gI h8 a11 5 2 fun x22 =>
 gI h8 a11 5 3 fun x24 =>
 nN r16 fun a32 => isO h8 a32 10 (cK kc ks fun mc26 ms27 kc28 ks29 => m_X9_add E a32 x18 x20 x22 x24 h8 mc26 ms27 (fun r30 h31 =>
 brN r30 (Q 0 h31) (fun a34 => gR h31 a11 5 5 fun r36 =>
 gI h31 a11 5 4 fun x38 =>
 isO h31 a34 5 (m_X4_copyBytes E a34 r36 x38 h31 0 0 (fun h41 =>
 Q 1 h41))))))))
def m_X11_put (E : Ev) (a0 : Nat) (xp1 : Int32) (h : Hp) (kc ks : Nat) (Q : Int32 → Hp → Prop) : Prop := gI h a0 12 3 fun x2 =>
  br (64 ≤ x2) (Q (-1) h) (m_X11_isWithin E xp1.toInt64 0 255 h 0 0 (fun x5 h6 =>
 br (x5 = 0) (Q (-1) h6) (gR h6 a0 12 2 fun r9 =>
 gI h6 a0 12 3 fun x11 =>
 nN r9 fun a13 => sI E h6 0 a13 x11 xp1 fun h14 =>
 gI h14 a0 12 3 fun x16 =>
 pV h14 a0 12 3 (.int (x16 + 1)) fun h18 =>
 gI h18 a0 12 3 fun x20 =>
 Q x20 h18)))
def m_X11_inject (E : Ev) (a0 : Nat) (xp1 : Int32) (xp2 : Int32) (xp3 : Int32) (xp4 : Int32) (h : Hp) (kc ks : Nat) (Q : Int32 → Hp → Prop) : Prop := gI h a0 12 3 fun x2 =>
  br (x2 = 0) (Q 0 h) (gR h a0 12 0 fun r5 =>
  nN r5 fun a9 => isO h a9 11 (m_X10_isSomebody E a9 xp1 xp2 h 0 0 (fun x7 h8 =>
 br (x7 = 0) (Q 0 h8) (gR h8 a0 12 0 fun r12 =>
 nN r12 fun a16 => isO h8 a16 11 (m_X10_isSomebody E a16 xp3 xp4 h8 0 0 (fun x14 h15 =>
 br (x14 = 0) (Q 0 h15) (gR h15 a0 12 0 fun r19 =>
 nN r19 fun a21 => gR h15 a21 11 0 fun r22 =>
 nN r22 fun a30 => isO h15 a30 10 (cK kc ks fun mc24 ms25 kc26 ks27 => m_X9_add E a30 xp1 xp2 xp3 xp4 h15 mc24 ms25 (fun r28 h29 =>
 brN r28 (Q 0 h29) (fun a32 => gR h29 a0 12 2 fun r34 =>
 gI h29 a0 12 3 fun x36 =>
 isO h29 a32 5 (m_X4_copyBytes E a32 r34 x36 h29 0 0 (fun h39 =>
 pV h39 a0 12 3 (.int 0) fun h41 =>
 Q 1 h41))))))))))))
def m_X11_power (E : Ev) (a0 : Nat) (xp1 : Int32) (xp2 : Int32) (h : Hp) (kc ks : Nat) (Q : Int32 → Hp → Prop) : Prop := gR h a0 12 0 fun r2 =>
  nN r2 fun a6 => isO h a6 11 (m_X10_isCard E a6 xp1 h 0 0 (fun x4 h5 =>
 br (x4 = 0) (Q 0 h5) (m_X11_isWithin E xp2.toInt64 0 9 h5 0 0 (fun x9 h10 =>
 br (x9 = 0) (Q 0 h10) (gR h10 a0 12 0 fun r13 =>
 nN r13 fun a15 => gR h10 a15 11 2 fun r16 =>
 nN r16 fun a20 => isO h10 a20 0 (m_Jx4a65c_get_915e3 E a20 xp1 h10 0 0 (fun r18 h19 =>
 nN r18 fun a22 => isO h19 a22 2 (pV h19 a22 2 9 (.int xp2) fun h24 =>
 Q 1 h24))))))))
def m_X11_tick_L56 (E : Ev) (a0 : Nat) (xv1 : Int32) (xv2 : Int32) (xv3 : Int32) (h : Hp) (kc ks : Nat) (K18 : Nat → Int32 → Int32 → Int32 → Hp → Nat → Nat → Prop) (Q : Int32 → Hp → Prop) : Prop := K18 a0 xv1 xv2 (xv3 + 1) h kc ks
def m_X11_tick_L18 (n : Nat) (E : Ev) (a0 : Nat) (xv1 : Int32) (xv2 : Int32) (xv3 : Int32) (h : Hp) (kc ks : Nat) (Q : Int32 → Hp → Prop) : Prop := match n with
  | 0 => False
  | n + 1 => gR h a0 12 0 fun r7 =>
  nN r7 fun a9 => gR h a9 11 3 fun r10 =>
  nN r10 fun a14 => isO h a14 0 (m_Jx4a65c_size_8abf5 E a14 h 0 0 (fun x12 h13 =>
 br (x12 ≤ xv3) (Q xv2 h13) (gR h13 a0 12 0 fun r17 =>
 nN r17 fun a19 => gR h13 a19 11 3 fun r20 =>
 nN r20 fun a24 => isO h13 a24 0 (m_Jx4a65c_get_915e3 E a24 xv3 h13 0 0 (fun r22 h23 =>
 nN r22 fun a26 => isO h23 a26 9 (isO h23 a26 9 (m_X8_givesUpAfter E a26 xv1 h23 0 0 (fun x28 h29 =>
 br (x28 = 0) (m_X11_tick_L56 E a0 xv1 xv2 xv3 h29 kc ks (fun a0k xv1k xv2k xv3k hk kck ksk => m_X11_tick_L18 n E a0k xv1k xv2k xv3k hk kck ksk Q) Q) (m_X11_tick_L56 E a0 xv1 (xv2 + 1) xv3 h29 kc ks (fun a0k xv1k xv2k xv3k hk kck ksk => m_X11_tick_L18 n E a0k xv1k xv2k xv3k hk kck ksk Q) Q)))))))))
def m_X11_tick (E : Ev) (a0 : Nat) (xp1 : Int32) (h : Hp) (kc ks : Nat) (Q : Int32 → Hp → Prop) : Prop := m_X11_isWithin E xp1.toInt64 1 100 h 0 0 (fun x2 h3 =>
 br (x2 = 0) (Q (-1) h3) (∃ n5, m_X11_tick_L18 n5 E a0 xp1 0 0 h3 kc ks Q))
def m_X11_clear (E : Ev) (a0 : Nat) (xp1 : Int32) (h : Hp) (kc ks : Nat) (Q : Int32 → Hp → Prop) : Prop := gR h a0 12 0 fun r2 =>
  nN r2 fun a6 => isO h a6 11 (m_X10_isTerminal E a6 xp1 h 0 0 (fun x4 h5 =>
 br (x4 = 0) (Q (-1) h5) (gR h5 a0 12 0 fun r9 =>
 nN r9 fun a11 => gR h5 a11 11 3 fun r12 =>
 nN r12 fun a16 => isO h5 a16 0 (m_Jx4a65c_get_915e3 E a16 xp1 h5 0 0 (fun r14 h15 =>
 nN r14 fun a18 => isO h15 a18 9 (isO h15 a18 9 (cK kc ks fun mc20 ms21 kc22 ks23 => m_X8_sendBatch E a18 h15 mc20 ms21 (fun x24 h25 =>
 Q x24 h25))))))))
def m_X11_count (E : Ev) (a0 : Nat) (xp1 : Int32) (h : Hp) (kc ks : Nat) (Q : Int32 → Hp → Prop) : Prop := br (xp1 = 0) (gR h a0 12 0 fun r2 =>
  nN r2 fun a4 => gR h a4 11 2 fun r5 =>
  nN r5 fun a9 => isO h a9 0 (m_Jx4a65c_size_8abf5 E a9 h 0 0 (fun x7 h8 =>
 Q x7 h8))) (br (xp1 = 1) (gR h a0 12 0 fun r11 =>
  nN r11 fun a13 => gR h a13 11 3 fun r14 =>
  nN r14 fun a18 => isO h a18 0 (m_Jx4a65c_size_8abf5 E a18 h 0 0 (fun x16 h17 =>
 Q x16 h17))) (br (xp1 = 2) (gR h a0 12 0 fun r20 =>
  nN r20 fun a22 => gR h a22 11 0 fun r23 =>
  nN r23 fun a25 => gI h a25 10 1 fun x26 =>
  Q x26 h) (br (xp1 = 3) (gR h a0 12 1 fun r28 =>
  nN r28 fun a30 => gR h a30 4 2 fun r31 =>
  nN r31 fun a35 => isO h a35 0 (m_Jx4a65c_size_8abf5 E a35 h 0 0 (fun x33 h34 =>
 Q x33 h34))) (br (xp1 = 4) (gR h a0 12 0 fun r37 =>
  nN r37 fun a39 => gR h a39 11 1 fun r40 =>
  nN r40 fun a42 => gR h a42 8 0 fun r43 =>
  nN r43 fun a47 => isO h a47 0 (m_Jx4a65c_size_8abf5 E a47 h 0 0 (fun x45 h46 =>
 Q x45 h46))) (br (xp1 = 5) (gR h a0 12 0 fun r49 =>
  nN r49 fun a51 => gR h a51 11 4 fun r52 =>
  nN r52 fun a56 => isO h a56 0 (m_Jx4a65c_size_8abf5 E a56 h 0 0 (fun x54 h55 =>
 Q x54 h55))) (Q (-1) h))))))
def m_X11_outcome (E : Ev) (a0 : Nat) (xp1 : Int32) (h : Hp) (kc ks : Nat) (Q : Int32 → Hp → Prop) : Prop := gR h a0 12 0 fun r2 =>
  nN r2 fun a6 => isO h a6 11 (m_X10_isTerminal E a6 xp1 h 0 0 (fun x4 h5 =>
 br (x4 = 0) (Q (-1) h5) (gR h5 a0 12 0 fun r9 =>
 nN r9 fun a11 => gR h5 a11 11 3 fun r12 =>
 nN r12 fun a16 => isO h5 a16 0 (m_Jx4a65c_get_915e3 E a16 xp1 h5 0 0 (fun r14 h15 =>
 nN r14 fun a18 => isO h15 a18 9 (gI h15 a18 9 5 fun x20 =>
 Q x20 h15))))))
def m_X11_told (E : Ev) (a0 : Nat) (xp1 : Int32) (xp2 : Int32) (h : Hp) (kc ks : Nat) (Q : Int32 → Hp → Prop) : Prop := gR h a0 12 0 fun r2 =>
  nN r2 fun a6 => isO h a6 11 (m_X10_isCard E a6 xp1 h 0 0 (fun x4 h5 =>
 br (x4 = 0) (Q (-1) h5) (gR h5 a0 12 0 fun r9 =>
 nN r9 fun a11 => gR h5 a11 11 2 fun r12 =>
 nN r12 fun a16 => isO h5 a16 0 (m_Jx4a65c_get_915e3 E a16 xp1 h5 0 0 (fun r14 h15 =>
 nN r14 fun a18 => isO h15 a18 2 (br (xp2 = 0) (gI h15 a18 2 5 fun x20 =>
 Q x20 h15) (br (xp2 = 1) (gI h15 a18 2 6 fun x22 =>
 Q x22 h15) (br (xp2 = 2) (gI h15 a18 2 7 fun x24 =>
 Q x24 h15) (br (xp2 = 3) (gI h15 a18 2 8 fun x26 =>
 Q x26 h15) (Q (-1) h15))))))))))
def m_X11_account_L38 (E : Ev)  (h : Hp) (kc ks : Nat) (Q : Int64 → Hp → Prop) : Prop := Q 0 h
def m_X11_account (E : Ev) (a0 : Nat) (xp1 : Int32) (h : Hp) (kc ks : Nat) (Q : Int64 → Hp → Prop) : Prop := br (xp1 < 0) (m_X11_account_L38 E  h kc ks Q) (gR h a0 12 1 fun r3 =>
  nN r3 fun a5 => gR h a5 4 1 fun r6 =>
  nN r6 fun a10 => isO h a10 0 (m_Jx4a65c_size_8abf5 E a10 h 0 0 (fun x8 h9 =>
 br (x8 ≤ xp1) (m_X11_account_L38 E h9 kc ks Q) (gR h9 a0 12 1 fun r13 =>
 nN r13 fun a15 => gR h9 a15 4 1 fun r16 =>
 nN r16 fun a20 => isO h9 a20 0 (m_Jx4a65c_get_915e3 E a20 xp1 h9 0 0 (fun r18 h19 =>
 nN r18 fun a22 => isO h19 a22 1 (gL h19 a22 1 0 fun y24 =>
 Q y24 h19)))))))
def m_X11_debit_L18 (E : Ev)  (h : Hp) (kc ks : Nat) (Q : Int64 → Hp → Prop) : Prop := Q (-1) h
def m_X11_debit (E : Ev) (a0 : Nat) (xp1 : Int32) (xp2 : Int32) (h : Hp) (kc ks : Nat) (Q : Int64 → Hp → Prop) : Prop := br (xp1 < 0) (m_X11_debit_L18 E  h kc ks Q) (gR h a0 12 1 fun r3 =>
  nN r3 fun a5 => gR h a5 4 2 fun r6 =>
  nN r6 fun a10 => isO h a10 0 (m_Jx4a65c_size_8abf5 E a10 h 0 0 (fun x8 h9 =>
 br (xp1 < x8) (gR h9 a0 12 1 fun r13 =>
 nN r13 fun a15 => gR h9 a15 4 2 fun r16 =>
 nN r16 fun a20 => isO h9 a20 0 (m_Jx4a65c_get_915e3 E a20 xp1 h9 0 0 (fun r18 h19 =>
 nN r18 fun a22 => isO h19 a22 6 (br (xp2 = 0) (gI h19 a22 6 0 fun x24 =>
 Q x24.toInt64 h19) (br (xp2 = 1) (gI h19 a22 6 1 fun x26 =>
 Q x26.toInt64 h19) (br (xp2 = 2) (gL h19 a22 6 2 fun y28 =>
 Q y28 h19) (br (xp2 = 3) (gL h19 a22 6 3 fun y30 =>
 Q y30 h19) (br (xp2 = 4) (gI h19 a22 6 4 fun x32 =>
 Q x32.toInt64 h19) (br (xp2 = 5) (gI h19 a22 6 5 fun x34 =>
 Q x34.toInt64 h19) (br (xp2 = 6) (gI h19 a22 6 6 fun x36 =>
 Q x36.toInt64 h19) (Q (-1) h19))))))))))) (m_X11_debit_L18 E h9 kc ks Q))))
def m_X11_message (E : Ev) (a0 : Nat) (xp1 : Int32) (xp2 : Int32) (h : Hp) (kc ks : Nat) (Q : Int32 → Hp → Prop) : Prop := gR h a0 12 0 fun r2 =>
  nN r2 fun a4 => gR h a4 11 0 fun r5 =>
  nN r5 fun a9 => isO h a9 10 (m_X9_get E a9 xp1 h 0 0 (fun r7 h8 =>
 brN r7 (Q (-1) h8) (fun a11 => br (xp2 = 0) (gI h8 a11 5 0 fun x13 =>
 Q x13 h8) (br (xp2 = 1) (gI h8 a11 5 1 fun x15 =>
 Q x15 h8) (br (xp2 = 2) (gI h8 a11 5 2 fun x17 =>
 Q x17 h8) (br (xp2 = 3) (gI h8 a11 5 3 fun x19 =>
 Q x19 h8) (br (xp2 = 4) (gI h8 a11 5 4 fun x21 =>
 Q x21 h8) (Q (-1) h8))))))))
def m_X11_at (E : Ev) (a0 : Nat) (xp1 : Int32) (xp2 : Int32) (h : Hp) (kc ks : Nat) (Q : Int32 → Hp → Prop) : Prop := gR h a0 12 0 fun r2 =>
  nN r2 fun a4 => gR h a4 11 0 fun r5 =>
  nN r5 fun a9 => isO h a9 10 (m_X9_get E a9 xp1 h 0 0 (fun r7 h8 =>
 brN r7 (Q (-1) h8) (fun a11 => isO h8 a11 5 (m_X4_has E a11 xp2 h8 0 0 (fun x13 h14 =>
 br (x13 = 0) (Q (-1) h14) (gR h14 a11 5 5 fun r17 =>
 nN r17 fun a19 => aI E h14 0 a19 xp2 fun x20 =>
 Q x20 h14))))))
def m_X11_matched_L2 (n : Nat) (E : Ev) (a0 : Nat) (xv1 : Int32) (h : Hp) (kc ks : Nat) (Q : Int32 → Hp → Prop) : Prop := match n with
  | 0 => False
  | n + 1 => gR h a0 12 1 fun r3 =>
  nN r3 fun a5 => gR h a5 4 2 fun r6 =>
  nN r6 fun a10 => isO h a10 0 (m_Jx4a65c_size_8abf5 E a10 h 0 0 (fun x8 h9 =>
 br (x8 ≤ xv1) (Q 1 h9) (gR h9 a0 12 1 fun r13 =>
 nN r13 fun a15 => gR h9 a15 4 2 fun r16 =>
 nN r16 fun a20 => isO h9 a20 0 (m_Jx4a65c_get_915e3 E a20 xv1 h9 0 0 (fun r18 h19 =>
 nN r18 fun a22 => isO h19 a22 6 (gR h19 a0 12 0 fun r24 =>
 nN r24 fun a28 => isO h19 a28 11 (m_X10_purchasesLike E a28 (some a22) h19 0 0 (fun x26 h27 =>
 br (x26 = 1) (gR h27 a0 12 0 fun r31 =>
 nN r31 fun a35 => isO h27 a35 11 (m_X10_wasAnswered E a35 (some a22) h27 0 0 (fun x33 h34 =>
 br (x33 = 0) (Q 0 h34) (gR h34 a0 12 1 fun r38 =>
 nN r38 fun a42 => isO h34 a42 4 (m_X3_debitsOfCounter E a42 (some a22) h34 0 0 (fun x40 h41 =>
 br (x40 = 1) (m_X11_matched_L2 n E a0 (xv1 + 1) h41 kc ks Q) (Q 0 h41))))))) (Q 0 h27)))))))))
def m_X11_matched (E : Ev) (a0 : Nat) (h : Hp) (kc ks : Nat) (Q : Int32 → Hp → Prop) : Prop := ∃ n1, m_X11_matched_L2 n1 E a0 0 h kc ks Q
def m_X12_init (E : Ev) (a0 : Nat) (h : Hp) (kc ks : Nat) (Q : Hp → Prop) : Prop := nA E h kc ks 0 4 4096 (fun N => (N, .inl (fun _ => 0))) fun a3 h4 kc5 ks6 =>
  pV h4 a0 13 1 (.ref a3) fun h8 =>
  nA E h8 kc5 ks6 0 4 4096 (fun N => (N, .inl (fun _ => 0))) fun a10 h11 kc12 ks13 =>
  pV h11 a0 13 2 (.ref a10) fun h15 =>
  nA E h15 kc12 ks13 1 8 49152 (fun N => (N, .inr (.inl (fun _ => 0)))) fun a17 h18 kc19 ks20 =>
  pV h18 a0 13 3 (.ref a17) fun h22 =>
  nA E h22 kc19 ks20 1 8 12 (fun N => (N, .inr (.inl (fun _ => 0)))) fun a24 h25 kc26 ks27 =>
  pV h25 a0 13 4 (.ref a24) fun h29 =>
  nA E h29 kc26 ks27 0 4 60 (fun N => (N, .inl (fun _ => 0))) fun a31 h32 kc33 ks34 =>
  pV h32 a0 13 7 (.ref a31) fun h36 =>
  nA E h36 kc33 ks34 0 4 60 (fun N => (N, .inl (fun _ => 0))) fun a38 h39 kc40 ks41 =>
  pV h39 a0 13 8 (.ref a38) fun h43 =>
  nA E h43 kc40 ks41 0 4 60 (fun N => (N, .inl (fun _ => 0))) fun a45 h46 kc47 ks48 =>
  pV h46 a0 13 9 (.ref a45) fun h50 =>
  nA E h50 kc47 ks48 0 4 60 (fun N => (N, .inl (fun _ => 0))) fun a52 h53 kc54 ks55 =>
  pV h53 a0 13 10 (.ref a52) fun h57 =>
  nA E h57 kc54 ks55 0 4 60 (fun N => (N, .inl (fun _ => 0))) fun a59 h60 kc61 ks62 =>
  pV h60 a0 13 11 (.ref a59) fun h64 =>
  nA E h64 kc61 ks62 0 4 3840 (fun N => (N, .inl (fun _ => 0))) fun a66 h67 kc68 ks69 =>
  pV h67 a0 13 12 (.ref a66) fun h71 =>
  nA E h71 kc68 ks69 0 4 64 (fun N => (N, .inl (fun _ => 0))) fun a73 h74 kc75 ks76 =>
  pV h74 a0 13 15 (.ref a73) fun h78 =>
  nA E h78 kc75 ks76 1 8 12 (fun N => (N, .inr (.inl (fun _ => 0)))) fun a80 h81 kc82 ks83 =>
  pV h81 a0 13 17 (.ref a80) fun h85 =>
  nA E h85 kc82 ks83 1 8 12 (fun N => (N, .inr (.inl (fun _ => 0)))) fun a87 h88 kc89 ks90 =>
  pV h88 a0 13 18 (.ref a87) fun h92 =>
  nA E h92 kc89 ks90 0 4 64 (fun N => (N, .inl (fun _ => 0))) fun a94 h95 kc96 ks97 =>
  pV h95 a0 13 19 (.ref a94) fun h99 =>
  nA E h99 kc96 ks97 0 4 16 (fun N => (N, .inl (fun _ => 0))) fun a101 h102 kc103 ks104 =>
  pV h102 a0 13 22 (.ref a101) fun h106 =>
  nA E h106 kc103 ks104 1 8 16 (fun N => (N, .inr (.inl (fun _ => 0)))) fun a108 h109 kc110 ks111 =>
  pV h109 a0 13 23 (.ref a108) fun h113 =>
  nA E h113 kc110 ks111 0 4 16 (fun N => (N, .inl (fun _ => 0))) fun a115 h116 kc117 ks118 =>
  pV h116 a0 13 24 (.ref a115) fun h120 =>
  nA E h120 kc117 ks118 1 8 16 (fun N => (N, .inr (.inl (fun _ => 0)))) fun a122 h123 kc124 ks125 =>
  pV h123 a0 13 25 (.ref a122) fun h127 =>
  nA E h127 kc124 ks125 0 4 16 (fun N => (N, .inl (fun _ => 0))) fun a129 h130 kc131 ks132 =>
  pV h130 a0 13 26 (.ref a129) fun h134 =>
  nA E h134 kc131 ks132 0 4 16 (fun N => (N, .inl (fun _ => 0))) fun a136 h137 kc138 ks139 =>
  pV h137 a0 13 27 (.ref a136) fun h141 =>
  nA E h141 kc138 ks139 0 4 16 (fun N => (N, .inl (fun _ => 0))) fun a143 h144 kc145 ks146 =>
  pV h144 a0 13 28 (.ref a143) fun h148 =>
  nA E h148 kc145 ks146 0 4 16 (fun N => (N, .inl (fun _ => 0))) fun a150 h151 kc152 ks153 =>
  pV h151 a0 13 29 (.ref a150) fun h155 =>
  nA E h155 kc152 ks153 0 4 16 (fun N => (N, .inl (fun _ => 0))) fun a157 h158 kc159 ks160 =>
  pV h158 a0 13 30 (.ref a157) fun h162 =>
  nA E h162 kc159 ks160 0 4 16 (fun N => (N, .inl (fun _ => 0))) fun a164 h165 kc166 ks167 =>
  pV h165 a0 13 31 (.ref a164) fun h169 =>
  nA E h169 kc166 ks167 1 8 16 (fun N => (N, .inr (.inl (fun _ => 0)))) fun a171 h172 kc173 ks174 =>
  pV h172 a0 13 32 (.ref a171) fun h176 =>
  nA E h176 kc173 ks174 1 8 16 (fun N => (N, .inr (.inl (fun _ => 0)))) fun a178 h179 kc180 ks181 =>
  pV h179 a0 13 33 (.ref a178) fun h183 =>
  nA E h183 kc180 ks181 1 8 16 (fun N => (N, .inr (.inl (fun _ => 0)))) fun a185 h186 kc187 ks188 =>
  pV h186 a0 13 34 (.ref a185) fun h190 =>
  nA E h190 kc187 ks188 0 4 16 (fun N => (N, .inl (fun _ => 0))) fun a192 h193 kc194 ks195 =>
  pV h193 a0 13 35 (.ref a192) fun h197 =>
  nA E h197 kc194 ks195 1 8 8 (fun N => (N, .inr (.inl (fun _ => 0)))) fun a199 h200 kc201 ks202 =>
  pV h200 a0 13 37 (.ref a199) fun h204 =>
  nA E h204 kc201 ks202 1 8 8 (fun N => (N, .inr (.inl (fun _ => 0)))) fun a206 h207 kc208 ks209 =>
  pV h207 a0 13 38 (.ref a206) fun h211 =>
  nA E h211 kc208 ks209 1 8 8 (fun N => (N, .inr (.inl (fun _ => 0)))) fun a213 h214 kc215 ks216 =>
  pV h214 a0 13 39 (.ref a213) fun h218 =>
  nA E h218 kc215 ks216 0 4 8 (fun N => (N, .inl (fun _ => 0))) fun a220 h221 kc222 ks223 =>
  pV h221 a0 13 40 (.ref a220) fun h225 =>
  nA E h225 kc222 ks223 0 4 8 (fun N => (N, .inl (fun _ => 0))) fun a227 h228 kc229 ks230 =>
  pV h228 a0 13 41 (.ref a227) fun h232 =>
  nA E h232 kc229 ks230 1 8 8 (fun N => (N, .inr (.inl (fun _ => 0)))) fun a234 h235 kc236 ks237 =>
  pV h235 a0 13 42 (.ref a234) fun h239 =>
  nA E h239 kc236 ks237 0 4 8 (fun N => (N, .inl (fun _ => 0))) fun a241 h242 kc243 ks244 =>
  pV h242 a0 13 43 (.ref a241) fun h246 =>
  nA E h246 kc243 ks244 1 8 8 (fun N => (N, .inr (.inl (fun _ => 0)))) fun a248 h249 kc250 ks251 =>
  pV h249 a0 13 44 (.ref a248) fun h253 =>
  nA E h253 kc250 ks251 1 8 8 (fun N => (N, .inr (.inl (fun _ => 0)))) fun a255 h256 kc257 ks258 =>
  pV h256 a0 13 45 (.ref a255) fun h260 =>
  nA E h260 kc257 ks258 0 4 8 (fun N => (N, .inl (fun _ => 0))) fun a262 h263 kc264 ks265 =>
  pV h263 a0 13 46 (.ref a262) fun h267 =>
  nA E h267 kc264 ks265 0 4 8 (fun N => (N, .inl (fun _ => 0))) fun a269 h270 kc271 ks272 =>
  pV h270 a0 13 47 (.ref a269) fun h274 =>
  nA E h274 kc271 ks272 0 4 8 (fun N => (N, .inl (fun _ => 0))) fun a276 h277 kc278 ks279 =>
  pV h277 a0 13 48 (.ref a276) fun h281 =>
  nA E h281 kc278 ks279 0 4 8 (fun N => (N, .inl (fun _ => 0))) fun a283 h284 kc285 ks286 =>
  pV h284 a0 13 49 (.ref a283) fun h288 =>
  nA E h288 kc285 ks286 0 4 8 (fun N => (N, .inl (fun _ => 0))) fun a290 h291 kc292 ks293 =>
  pV h291 a0 13 50 (.ref a290) fun h295 =>
  nA E h295 kc292 ks293 0 4 8 (fun N => (N, .inl (fun _ => 0))) fun a297 h298 kc299 ks300 =>
  pV h298 a0 13 51 (.ref a297) fun h302 =>
  nA E h302 kc299 ks300 0 4 600 (fun N => (N, .inl (fun _ => 0))) fun a304 h305 kc306 ks307 =>
  pV h305 a0 13 54 (.ref a304) fun h309 =>
  nA E h309 kc306 ks307 2 1 600 (fun N => (N, .inl (fun _ => 0))) fun a311 h312 kc313 ks314 =>
  pV h312 a0 13 55 (.ref a311) fun h316 =>
  nA E h316 kc313 ks314 1 8 4200 (fun N => (N, .inr (.inl (fun _ => 0)))) fun a318 h319 kc320 ks321 =>
  pV h319 a0 13 56 (.ref a318) fun h323 =>
  nA E h323 kc320 ks321 1 8 1800 (fun N => (N, .inr (.inl (fun _ => 0)))) fun a325 h326 kc327 ks328 =>
  pV h326 a0 13 58 (.ref a325) fun h330 =>
  nA E h330 kc327 ks328 1 8 4200 (fun N => (N, .inr (.inl (fun _ => 0)))) fun a332 h333 kc334 ks335 =>
  pV h333 a0 13 60 (.ref a332) fun h337 =>
  nA E h337 kc334 ks335 1 8 4200 (fun N => (N, .inr (.inl (fun _ => 0)))) fun a339 h340 kc341 ks342 =>
  pV h340 a0 13 62 (.ref a339) fun h344 =>
  Q h344
def m_X12_isIn (E : Ev) (yp0 : Int64) (yp2 : Int64) (yp4 : Int64) (h : Hp) (kc ks : Nat) (Q : Int32 → Hp → Prop) : Prop := br ((lg_cmp yp0 yp2) < 0) (Q 0 h) (br (0 < (lg_cmp yp0 yp4)) (Q 0 h) (Q 1 h))
def m_X12_begin (E : Ev) (a0 : Nat) (yp1 : Int64) (h : Hp) (kc ks : Nat) (Q : Hp → Prop) : Prop := gR h a0 13 4 fun r2 =>
  nN r2 fun a4 => sL E h 1 a4 0 yp1 fun h5 =>
  pV h5 a0 13 5 (.int 1) fun h7 =>
  Q h7
def m_X12_more (E : Ev) (a0 : Nat) (yp1 : Int64) (h : Hp) (kc ks : Nat) (Q : Hp → Prop) : Prop := gR h a0 13 4 fun r2 =>
  gI h a0 13 5 fun x4 =>
  nN r2 fun a6 => sL E h 1 a6 x4 yp1 fun h7 =>
  gI h7 a0 13 5 fun x9 =>
  pV h7 a0 13 5 (.int (x9 + 1)) fun h11 =>
  Q h11
def m_X12_find_L101 (E : Ev) (a0 : Nat) (xv4 : Int32) (xv5 : Int32) (xv7 : Int32) (s0 : Int32) (h : Hp) (kc ks : Nat) (K13 : Nat → Int32 → Int32 → Hp → Nat → Nat → Prop) (K58 : Nat → Int32 → Int32 → Int32 → Int32 → Hp → Nat → Nat → Prop) (Q : Int32 → Hp → Prop) : Prop := K58 a0 xv4 xv5 s0 (xv7 + 1) h kc ks
def m_X12_find_L109 (E : Ev) (a0 : Nat) (xv4 : Int32) (xv5 : Int32) (xv6 : Int32) (h : Hp) (kc ks : Nat) (K13 : Nat → Int32 → Int32 → Hp → Nat → Nat → Prop) (Q : Int32 → Hp → Prop) : Prop := br (xv6 = 0) (K13 a0 xv4 (xv5 + 1) h kc ks) (Q (xv5 + 1) h)
def m_X12_find_L58 (n : Nat) (E : Ev) (a0 : Nat) (xv4 : Int32) (xv5 : Int32) (xv6 : Int32) (xv7 : Int32) (h : Hp) (kc ks : Nat) (K13 : Nat → Int32 → Int32 → Hp → Nat → Nat → Prop) (Q : Int32 → Hp → Prop) : Prop := match n with
  | 0 => False
  | n + 1 => gI h a0 13 5 fun x21 =>
  br (x21 ≤ xv7) (m_X12_find_L109 E a0 xv4 xv5 xv6 h kc ks K13 Q) (br (xv6 = 0) (m_X12_find_L109 E a0 xv4 xv5 xv6 h kc ks K13 Q) (gR h a0 13 3 fun r25 =>
  nN r25 fun a27 => aL E h 1 a27 ((12 * xv5) + xv7) fun y28 =>
  gR h a0 13 4 fun r30 =>
  nN r30 fun a32 => aL E h 1 a32 xv7 fun y33 =>
  br ((lg_cmp y28 y33) = 0) (m_X12_find_L101 E a0 xv4 xv5 xv7 1 h kc ks K13 (fun a0k xv4k xv5k xv6k xv7k hk kck ksk => m_X12_find_L58 n E a0k xv4k xv5k xv6k xv7k hk kck ksk K13 Q) Q) (m_X12_find_L101 E a0 xv4 xv5 xv7 0 h kc ks K13 (fun a0k xv4k xv5k xv6k xv7k hk kck ksk => m_X12_find_L58 n E a0k xv4k xv5k xv6k xv7k hk kck ksk K13 Q) Q)))
def m_X12_find_L53 (E : Ev) (a0 : Nat) (xv4 : Int32) (xv5 : Int32) (s0 : Int32) (h : Hp) (kc ks : Nat) (K13 : Nat → Int32 → Int32 → Hp → Nat → Nat → Prop) (Q : Int32 → Hp → Prop) : Prop := ∃ n19, m_X12_find_L58 n19 E a0 xv4 xv5 s0 0 h kc ks K13 Q
def m_X12_find_L52 (E : Ev) (a0 : Nat) (xv4 : Int32) (xv5 : Int32) (h : Hp) (kc ks : Nat) (K13 : Nat → Int32 → Int32 → Hp → Nat → Nat → Prop) (Q : Int32 → Hp → Prop) : Prop := m_X12_find_L53 E a0 xv4 xv5 0 h kc ks K13 Q
def m_X12_find_L13 (n : Nat) (E : Ev) (a0 : Nat) (xv4 : Int32) (xv5 : Int32) (h : Hp) (kc ks : Nat) (Q : Int32 → Hp → Prop) : Prop := match n with
  | 0 => False
  | n + 1 => gI h a0 13 0 fun x3 =>
  br (x3 ≤ xv5) (Q 0 h) (gR h a0 13 1 fun r6 =>
  nN r6 fun a8 => aI E h 0 a8 xv5 fun x9 =>
  br (x9 = xv4) (gR h a0 13 2 fun r12 =>
  nN r12 fun a14 => aI E h 0 a14 xv5 fun x15 =>
  gI h a0 13 5 fun x17 =>
  br (x15 = x17) (m_X12_find_L53 E a0 xv4 xv5 1 h kc ks (fun a0k xv4k xv5k hk kck ksk => m_X12_find_L13 n E a0k xv4k xv5k hk kck ksk Q) Q) (m_X12_find_L52 E a0 xv4 xv5 h kc ks (fun a0k xv4k xv5k hk kck ksk => m_X12_find_L13 n E a0k xv4k xv5k hk kck ksk Q) Q)) (m_X12_find_L52 E a0 xv4 xv5 h kc ks (fun a0k xv4k xv5k hk kck ksk => m_X12_find_L13 n E a0k xv4k xv5k hk kck ksk Q) Q))
def m_X12_find (E : Ev) (a0 : Nat) (xp1 : Int32) (yp2 : Int64) (h : Hp) (kc ks : Nat) (Q : Int32 → Hp → Prop) : Prop := ∃ n1, m_X12_find_L13 n1 E a0 ((256 * xp1) + yp2.toInt32) 0 h kc ks Q
def m_X12_seal_L49 (n : Nat) (E : Ev) (a0 : Nat) (xv5 : Int32) (h : Hp) (kc ks : Nat) (Q : Int32 → Hp → Prop) : Prop := match n with
  | 0 => False
  | n + 1 => gI h a0 13 5 fun x23 =>
  br (x23 ≤ xv5) (gI h a0 13 0 fun x26 =>
  pV h a0 13 0 (.int (x26 + 1)) fun h28 =>
  gI h28 a0 13 0 fun x30 =>
  Q x30 h28) (gR h a0 13 3 fun r32 =>
  gI h a0 13 0 fun x34 =>
  gR h a0 13 4 fun r36 =>
  nN r36 fun a38 => aL E h 1 a38 xv5 fun y39 =>
  nN r32 fun a41 => sL E h 1 a41 ((12 * x34) + xv5) y39 fun h42 =>
  m_X12_seal_L49 n E a0 (xv5 + 1) h42 kc ks Q)
def m_X12_seal (E : Ev) (a0 : Nat) (xp1 : Int32) (yp2 : Int64) (h : Hp) (kc ks : Nat) (Q : Int32 → Hp → Prop) : Prop := isO h a0 13 (m_X12_find E a0 xp1 yp2 h 0 0 (fun x2 h3 =>
 br (x2 ≤ 0) (gR h3 a0 13 1 fun r6 =>
 gI h3 a0 13 0 fun x8 =>
 nN r6 fun a10 => sI E h3 0 a10 x8 ((256 * xp1) + yp2.toInt32) fun h11 =>
 gR h11 a0 13 2 fun r13 =>
 gI h11 a0 13 0 fun x15 =>
 gI h11 a0 13 5 fun x17 =>
 nN r13 fun a19 => sI E h11 0 a19 x15 x17 fun h20 =>
 ∃ n21, m_X12_seal_L49 n21 E a0 0 h20 kc ks Q) (Q x2 h3)))
def m_X12_isGood (E : Ev) (a0 : Nat) (xp1 : Int32) (yp2 : Int64) (yp4 : Int64) (h : Hp) (kc ks : Nat) (Q : Int32 → Hp → Prop) : Prop := br ((lg_cmp yp4 0) ≤ 0) (Q 0 h) (isO h a0 13 (m_X12_find E a0 xp1 yp2 h 0 0 (fun x3 h4 =>
 br ((lg_cmp x3.toInt64 yp4) = 0) (Q 1 h4) (Q 0 h4))))
def m_X12_lengthOf (E : Ev) (xp0 : Int32) (h : Hp) (kc ks : Nat) (Q : Int32 → Hp → Prop) : Prop := br (xp0 = 1) (Q 1 h) (br (xp0 = 2) (Q 2 h) (br (xp0 = 3) (Q 5 h) (br (xp0 = 4) (Q 4 h) (br (xp0 = 5) (Q 1 h) (br (xp0 = 6) (Q 1 h) (br (xp0 = 7) (Q 1 h) (br (xp0 = 8) (Q 4 h) (br (xp0 = 9) (Q 2 h) (br (xp0 = 10) (Q 1 h) (br (xp0 = 11) (Q 4 h) (Q 0 h)))))))))))
def m_X12_has_L87 (E : Ev)  (h : Hp) (kc ks : Nat) (Q : Int32 → Hp → Prop) : Prop := Q 1 h
def m_X12_has_L138 (E : Ev)  (h : Hp) (kc ks : Nat) (Q : Int32 → Hp → Prop) : Prop := Q 1 h
def m_X12_has_L167 (E : Ev)  (h : Hp) (kc ks : Nat) (Q : Int32 → Hp → Prop) : Prop := Q 1 h
def m_X12_has_L191 (E : Ev)  (h : Hp) (kc ks : Nat) (Q : Int32 → Hp → Prop) : Prop := Q 1 h
def m_X12_has_L225 (E : Ev)  (h : Hp) (kc ks : Nat) (Q : Int32 → Hp → Prop) : Prop := Q 1 h
def m_X12_has_L243 (E : Ev)  (h : Hp) (kc ks : Nat) (Q : Int32 → Hp → Prop) : Prop := Q 1 h
def m_X12_has_L261 (E : Ev)  (h : Hp) (kc ks : Nat) (Q : Int32 → Hp → Prop) : Prop := Q 1 h
def m_X12_has (E : Ev) (xp0 : Int32) (xp1 : Int32) (h : Hp) (kc ks : Nat) (Q : Int32 → Hp → Prop) : Prop := br (xp0 = 1) (br (xp1 = 4) (Q 1 h) (Q 0 h)) (br (xp0 = 2) (br (xp1 = 1) (m_X12_has_L87 E  h kc ks Q) (br (xp1 = 2) (m_X12_has_L87 E  h kc ks Q) (br (xp1 = 8) (m_X12_has_L87 E  h kc ks Q) (Q 0 h)))) (br (xp0 = 3) (br (xp1 = 9) (Q 1 h) (Q 0 h)) (br (xp0 = 4) (br (xp1 = 6) (Q 1 h) (Q 0 h)) (br (xp0 = 5) (br (xp1 = 3) (m_X12_has_L138 E  h kc ks Q) (br (xp1 = 4) (m_X12_has_L138 E  h kc ks Q) (br (xp1 = 5) (m_X12_has_L138 E  h kc ks Q) (br (xp1 = 7) (m_X12_has_L138 E  h kc ks Q) (Q 0 h))))) (br (xp0 = 6) (br (xp1 = 2) (m_X12_has_L167 E  h kc ks Q) (br (xp1 = 6) (m_X12_has_L167 E  h kc ks Q) (br (xp1 = 7) (m_X12_has_L167 E  h kc ks Q) (br (xp1 = 8) (m_X12_has_L167 E  h kc ks Q) (Q 0 h))))) (br (xp0 = 7) (br (xp1 ≤ 6) (m_X12_has_L191 E  h kc ks Q) (br (xp1 = 8) (m_X12_has_L191 E  h kc ks Q) (br (xp1 = 11) (m_X12_has_L191 E  h kc ks Q) (Q 0 h)))) (br (xp0 = 8) (br (xp1 = 1) (m_X12_has_L225 E  h kc ks Q) (br (xp1 = 2) (m_X12_has_L225 E  h kc ks Q) (br (xp1 = 8) (m_X12_has_L225 E  h kc ks Q) (br (xp1 = 10) (m_X12_has_L225 E  h kc ks Q) (br (xp1 = 11) (m_X12_has_L225 E  h kc ks Q) (Q 0 h)))))) (br (xp0 = 9) (br (xp1 = 8) (m_X12_has_L243 E  h kc ks Q) (br (xp1 = 10) (m_X12_has_L243 E  h kc ks Q) (Q 0 h))) (br (xp0 = 10) (br (xp1 = 7) (m_X12_has_L261 E  h kc ks Q) (br (xp1 = 8) (m_X12_has_L261 E  h kc ks Q) (Q 0 h))) (br (xp0 = 11) (br (xp1 ≤ 6) (m_X12_has_L191 E  h kc ks Q) (br (xp1 = 8) (m_X12_has_L191 E  h kc ks Q) (br (xp1 = 11) (m_X12_has_L191 E  h kc ks Q) (Q 0 h)))) (Q 0 h)))))))))))
def m_X12_lie (E : Ev) (a0 : Nat) (xp1 : Int32) (xp2 : Int32) (xp3 : Int32) (xp4 : Int32) (xp5 : Int32) (h : Hp) (kc ks : Nat) (Q : Hp → Prop) : Prop := gR h a0 13 7 fun r2 =>
  gI h a0 13 6 fun x4 =>
  nN r2 fun a6 => sI E h 0 a6 x4 xp1 fun h7 =>
  gR h7 a0 13 8 fun r9 =>
  gI h7 a0 13 6 fun x11 =>
  nN r9 fun a13 => sI E h7 0 a13 x11 xp2 fun h14 =>
  gR h14 a0 13 9 fun r16 =>
  gI h14 a0 13 6 fun x18 =>
  nN r16 fun a20 => sI E h14 0 a20 x18 xp3 fun h21 =>
  gR h21 a0 13 10 fun r23 =>
  gI h21 a0 13 6 fun x25 =>
  nN r23 fun a27 => sI E h21 0 a27 x25 xp4 fun h28 =>
  gR h28 a0 13 11 fun r30 =>
  gI h28 a0 13 6 fun x32 =>
  nN r30 fun a34 => sI E h28 0 a34 x32 xp5 fun h35 =>
  gI h35 a0 13 6 fun x37 =>
  pV h35 a0 13 6 (.int (x37 + 1)) fun h39 =>
  Q h39
def m_X12_send_L146 (E : Ev) (a0 : Nat) (xv1 : Int32) (xv2 : Int32) (xv3 : Int32) (xv4 : Int32) (xv5 : Int32) (xv6 : Int32) (xv7 : Int32) (xv8 : Int32) (h : Hp) (kc ks : Nat) (K34 : Nat → Int32 → Int32 → Int32 → Int32 → Int32 → Int32 → Int32 → Int32 → Hp → Nat → Nat → Prop) (Q : Int32 → Hp → Prop) : Prop := K34 a0 xv1 xv2 xv3 xv4 xv5 xv6 xv7 (xv8 + 1) h kc ks
def m_X12_send_L86 (n : Nat) (E : Ev) (a0 : Nat) (xv1 : Int32) (xv2 : Int32) (xv3 : Int32) (xv4 : Int32) (xv5 : Int32) (xv6 : Int32) (xv7 : Int32) (xv8 : Int32) (xv9 : Int32) (xv10 : Int32) (h : Hp) (kc ks : Nat) (K34 : Nat → Int32 → Int32 → Int32 → Int32 → Int32 → Int32 → Int32 → Int32 → Hp → Nat → Nat → Prop) (Q : Int32 → Hp → Prop) : Prop := match n with
  | 0 => False
  | n + 1 => br (xv9 ≤ xv10) (m_X12_send_L146 E a0 xv1 xv2 xv3 xv4 xv5 xv6 (xv7 + (2 + xv9)) xv8 h kc ks K34 Q) (gR h a0 13 12 fun r36 =>
  gR h a0 13 18 fun r38 =>
  nN r38 fun a40 => aL E h 1 a40 xv8 fun y41 =>
  ∀ x42 : Int32, x42 = ((y41 >>> ((8 * ((xv9 - 1) - xv10)).toInt64 &&& 63)).toInt32) &&& 255 → nN r36 fun a45 => sI E h 0 a45 (((xv6 + xv7) + 2) + xv10) x42 fun h46 =>
  m_X12_send_L86 n E a0 xv1 xv2 xv3 xv4 xv5 xv6 xv7 xv8 xv9 (xv10 + 1) h46 kc ks K34 Q)
def m_X12_send_L34 (n : Nat) (E : Ev) (a0 : Nat) (xv1 : Int32) (xv2 : Int32) (xv3 : Int32) (xv4 : Int32) (xv5 : Int32) (xv6 : Int32) (xv7 : Int32) (xv8 : Int32) (h : Hp) (kc ks : Nat) (Q : Int32 → Hp → Prop) : Prop := match n with
  | 0 => False
  | n + 1 => br (11 < xv8) (isO h a0 13 (m_X12_lie E a0 xv2 xv3 xv4 xv5 xv7 h 0 0 (fun h15 =>
 Q 1 h15))) (m_X12_has E xv1 xv8 h 0 0 (fun x17 h18 =>
 br (x17 = 0) (m_X12_send_L146 E a0 xv1 xv2 xv3 xv4 xv5 xv6 xv7 xv8 h18 kc ks (fun a0k xv1k xv2k xv3k xv4k xv5k xv6k xv7k xv8k hk kck ksk => m_X12_send_L34 n E a0k xv1k xv2k xv3k xv4k xv5k xv6k xv7k xv8k hk kck ksk Q) Q) (m_X12_lengthOf E xv8 h18 0 0 (fun x21 h22 =>
 gR h22 a0 13 12 fun r24 =>
 nN r24 fun a26 => sI E h22 0 a26 (xv6 + xv7) xv8 fun h27 =>
 gR h27 a0 13 12 fun r29 =>
 nN r29 fun a31 => sI E h27 0 a31 ((xv6 + xv7) + 1) x21 fun h32 =>
 ∃ n33, m_X12_send_L86 n33 E a0 xv1 xv2 xv3 xv4 xv5 xv6 xv7 xv8 x21 0 h32 kc ks (fun a0k xv1k xv2k xv3k xv4k xv5k xv6k xv7k xv8k hk kck ksk => m_X12_send_L34 n E a0k xv1k xv2k xv3k xv4k xv5k xv6k xv7k xv8k hk kck ksk Q) Q))))
def m_X12_send (E : Ev) (a0 : Nat) (xp1 : Int32) (xp2 : Int32) (xp3 : Int32) (xp4 : Int32) (xp5 : Int32) (h : Hp) (kc ks : Nat) (Q : Int32 → Hp → Prop) : Prop := gI h a0 13 6 fun x2 =>
  br (x2 = 60) (Q 0 h) (gI h a0 13 6 fun x5 =>
  gR h a0 13 12 fun r7 =>
  nN r7 fun a9 => sI E h 0 a9 (64 * x5) xp1 fun h10 =>
  ∃ n11, m_X12_send_L34 n11 E a0 xp1 xp2 xp3 xp4 xp5 (64 * x5) 1 1 h10 kc ks Q)
def m_X12_isMessage (E : Ev) (a0 : Nat) (xp1 : Int32) (h : Hp) (kc ks : Nat) (Q : Int32 → Hp → Prop) : Prop := br (xp1 < 0) (Q 0 h) (gI h a0 13 6 fun x3 =>
  br (x3 ≤ xp1) (Q 0 h) (Q 1 h))
def m_X12_remove_L92 (n : Nat) (E : Ev) (a0 : Nat) (xv2 : Int32) (xv3 : Int32) (h : Hp) (kc ks : Nat) (K12 : Nat → Int32 → Hp → Nat → Nat → Prop) (Q : Hp → Prop) : Prop := match n with
  | 0 => False
  | n + 1 => br (64 ≤ xv3) (K12 a0 (xv2 + 1) h kc ks) (gR h a0 13 12 fun r62 =>
  gR h a0 13 12 fun r64 =>
  nN r64 fun a66 => aI E h 0 a66 ((64 * (xv2 + 1)) + xv3) fun x67 =>
  nN r62 fun a69 => sI E h 0 a69 ((64 * xv2) + xv3) x67 fun h70 =>
  m_X12_remove_L92 n E a0 xv2 (xv3 + 1) h70 kc ks K12 Q)
def m_X12_remove_L12 (n : Nat) (E : Ev) (a0 : Nat) (xv2 : Int32) (h : Hp) (kc ks : Nat) (Q : Hp → Prop) : Prop := match n with
  | 0 => False
  | n + 1 => gI h a0 13 6 fun x7 =>
  br (x7 ≤ xv2) (Q h) (gR h a0 13 7 fun r10 =>
  gR h a0 13 7 fun r12 =>
  nN r12 fun a14 => aI E h 0 a14 (xv2 + 1) fun x15 =>
  nN r10 fun a17 => sI E h 0 a17 xv2 x15 fun h18 =>
  gR h18 a0 13 8 fun r20 =>
  gR h18 a0 13 8 fun r22 =>
  nN r22 fun a24 => aI E h18 0 a24 (xv2 + 1) fun x25 =>
  nN r20 fun a27 => sI E h18 0 a27 xv2 x25 fun h28 =>
  gR h28 a0 13 9 fun r30 =>
  gR h28 a0 13 9 fun r32 =>
  nN r32 fun a34 => aI E h28 0 a34 (xv2 + 1) fun x35 =>
  nN r30 fun a37 => sI E h28 0 a37 xv2 x35 fun h38 =>
  gR h38 a0 13 10 fun r40 =>
  gR h38 a0 13 10 fun r42 =>
  nN r42 fun a44 => aI E h38 0 a44 (xv2 + 1) fun x45 =>
  nN r40 fun a47 => sI E h38 0 a47 xv2 x45 fun h48 =>
  gR h48 a0 13 11 fun r50 =>
  gR h48 a0 13 11 fun r52 =>
  nN r52 fun a54 => aI E h48 0 a54 (xv2 + 1) fun x55 =>
  nN r50 fun a57 => sI E h48 0 a57 xv2 x55 fun h58 =>
  ∃ n59, m_X12_remove_L92 n59 E a0 xv2 0 h58 kc ks (fun a0k xv2k hk kck ksk => m_X12_remove_L12 n E a0k xv2k hk kck ksk Q) Q)
def m_X12_remove (E : Ev) (a0 : Nat) (xp1 : Int32) (h : Hp) (kc ks : Nat) (Q : Hp → Prop) : Prop := gI h a0 13 6 fun x2 =>
  pV h a0 13 6 (.int (x2 - 1)) fun h4 =>
  ∃ n5, m_X12_remove_L12 n5 E a0 xp1 h4 kc ks Q
def m_X12_read_L137 (E : Ev) (a0 : Nat) (xv1 : Int32) (xv2 : Int32) (xv3 : Int32) (h : Hp) (kc ks : Nat) (K24 : Nat → Int32 → Int32 → Int32 → Hp → Nat → Nat → Prop) (Q : Int32 → Hp → Prop) : Prop := K24 a0 xv1 xv2 (xv3 + 1) h kc ks
def m_X12_read_L88 (n : Nat) (E : Ev) (a0 : Nat) (xv1 : Int32) (xv2 : Int32) (xv3 : Int32) (xv4 : Int32) (yv5 : Int64) (xv7 : Int32) (h : Hp) (kc ks : Nat) (K24 : Nat → Int32 → Int32 → Int32 → Hp → Nat → Nat → Prop) (Q : Int32 → Hp → Prop) : Prop := match n with
  | 0 => False
  | n + 1 => br (xv4 ≤ xv7) (gR h a0 13 17 fun r38 =>
  nN r38 fun a40 => sL E h 1 a40 xv3 yv5 fun h41 =>
  m_X12_read_L137 E a0 xv1 (xv2 + (2 + xv4)) xv3 h41 kc ks K24 Q) (gR h a0 13 15 fun r43 =>
  nN r43 fun a45 => aI E h 0 a45 ((xv2 + 2) + xv7) fun x46 =>
  m_X12_read_L88 n E a0 xv1 xv2 xv3 xv4 ((256 * yv5) + x46.toInt64) (xv7 + 1) h kc ks K24 Q)
def m_X12_read_L24 (n : Nat) (E : Ev) (a0 : Nat) (xv1 : Int32) (xv2 : Int32) (xv3 : Int32) (h : Hp) (kc ks : Nat) (Q : Int32 → Hp → Prop) : Prop := match n with
  | 0 => False
  | n + 1 => br (11 < xv3) (gI h a0 13 16 fun x11 =>
  br (xv2 = x11) (Q xv1 h) (Q 0 h)) (m_X12_has E xv1 xv3 h 0 0 (fun x14 h15 =>
 br (x14 = 0) (m_X12_read_L137 E a0 xv1 xv2 xv3 h15 kc ks (fun a0k xv1k xv2k xv3k hk kck ksk => m_X12_read_L24 n E a0k xv1k xv2k xv3k hk kck ksk Q) Q) (m_X12_lengthOf E xv3 h15 0 0 (fun x18 h19 =>
 gI h19 a0 13 16 fun x21 =>
 br (x21 < ((xv2 + 2) + x18)) (Q 0 h19) (gR h19 a0 13 15 fun r24 =>
 nN r24 fun a26 => aI E h19 0 a26 xv2 fun x27 =>
 br (x27 = xv3) (gR h19 a0 13 15 fun r30 =>
 nN r30 fun a32 => aI E h19 0 a32 (xv2 + 1) fun x33 =>
 br (x33 = x18) (∃ n35, m_X12_read_L88 n35 E a0 xv1 xv2 xv3 x18 0 0 h19 kc ks (fun a0k xv1k xv2k xv3k hk kck ksk => m_X12_read_L24 n E a0k xv1k xv2k xv3k hk kck ksk Q) Q) (Q 0 h19)) (Q 0 h19))))))
def m_X12_read (E : Ev) (a0 : Nat) (h : Hp) (kc ks : Nat) (Q : Int32 → Hp → Prop) : Prop := gR h a0 13 15 fun r2 =>
  nN r2 fun a4 => aI E h 0 a4 0 fun x5 =>
  br (x5 < 1) (Q 0 h) (br (x5 ≤ 11) (∃ n8, m_X12_read_L24 n8 E a0 x5 1 1 h kc ks Q) (Q 0 h))
def m_X12_writes_L84 (E : Ev) (s0 : Int32) (s1 : Int32) (s2 : Option Nat) (h : Hp) (kc ks : Nat) (Q : Int32 → Hp → Prop) : Prop := nN s2 fun a56 => sI E h 0 a56 s1 s0 fun h57 =>
  Q 1 h57
def m_X12_writes (E : Ev) (a0 : Nat) (xp1 : Int32) (h : Hp) (kc ks : Nat) (Q : Int32 → Hp → Prop) : Prop := gR h a0 13 35 fun r2 =>
  nN r2 fun a4 => aI E h 0 a4 xp1 fun x5 =>
  br (x5 = 0) (gR h a0 13 35 fun r26 =>
  nN r26 fun a28 => sI E h 0 a28 xp1 (-1) fun h29 =>
  gR h29 a0 13 30 fun r31 =>
  nN r31 fun a33 => sI E h29 0 a33 xp1 0 fun h34 =>
  gR h34 a0 13 31 fun r36 =>
  nN r36 fun a38 => sI E h34 0 a38 xp1 0 fun h39 =>
  gR h39 a0 13 32 fun r41 =>
  nN r41 fun a43 => sL E h39 1 a43 xp1 0 fun h44 =>
  gR h44 a0 13 33 fun r46 =>
  nN r46 fun a48 => sL E h44 1 a48 xp1 0 fun h49 =>
  gR h49 a0 13 34 fun r51 =>
  nN r51 fun a53 => sL E h49 1 a53 xp1 0 fun h54 =>
  Q 0 h54) (gR h a0 13 35 fun r8 =>
  gR h a0 13 35 fun r10 =>
  nN r10 fun a12 => aI E h 0 a12 xp1 fun x13 =>
  br (x13 ≤ 0) (gR h a0 13 35 fun r16 =>
  nN r16 fun a18 => aI E h 0 a18 xp1 fun x19 =>
  m_X12_writes_L84 E x19 xp1 r8 h kc ks Q) (gR h a0 13 35 fun r21 =>
  nN r21 fun a23 => aI E h 0 a23 xp1 fun x24 =>
  m_X12_writes_L84 E (x24 - 1) xp1 r8 h kc ks Q))
def m_X12_reply (E : Ev) (a0 : Nat) (xp1 : Int32) (xp2 : Int32) (h : Hp) (kc ks : Nat) (Q : Hp → Prop) : Prop := gI h a0 13 13 fun x2 =>
  gI h a0 13 14 fun x4 =>
  isO h a0 13 (m_X12_send E a0 xp1 0 xp2 x2 x4 h 0 0 (fun x6 h7 =>
 Q h7))
def m_X12_typePin_L126 (E : Ev) (a0 : Nat) (xv1 : Int32) (s0 : Int64) (s1 : Int32) (s2 : Option Nat) (h : Hp) (kc ks : Nat) (Q : Hp → Prop) : Prop := nN s2 fun a62 => sL E h 1 a62 s1 s0 fun h63 =>
  isO h63 a0 13 (m_X12_reply E a0 4 xv1 h63 0 0 (fun h66 =>
 Q h66))
def m_X12_typePin_L110 (E : Ev) (a0 : Nat) (xv1 : Int32) (xv2 : Int32) (s0 : Int32) (s1 : Int32) (s2 : Option Nat) (h : Hp) (kc ks : Nat) (Q : Hp → Prop) : Prop := nN s2 fun a56 => sI E h 0 a56 s1 s0 fun h57 =>
  gR h57 a0 13 18 fun r59 =>
  br (xv2 = 0) (m_X12_typePin_L126 E a0 xv1 0 6 r59 h57 kc ks Q) (m_X12_typePin_L126 E a0 xv1 1 6 r59 h57 kc ks Q)
def m_X12_typePin_L96 (E : Ev) (a0 : Nat) (xv1 : Int32) (xv2 : Int32) (h : Hp) (kc ks : Nat) (Q : Hp → Prop) : Prop := gR h a0 13 31 fun r53 =>
  br (xv2 = 0) (m_X12_typePin_L110 E a0 xv1 xv2 2 xv1 r53 h kc ks Q) (m_X12_typePin_L110 E a0 xv1 xv2 1 xv1 r53 h kc ks Q)
def m_X12_typePin_L75 (E : Ev) (a0 : Nat) (xv1 : Int32) (s0 : Int32) (h : Hp) (kc ks : Nat) (Q : Hp → Prop) : Prop := br (s0 = 0) (m_X12_typePin_L96 E a0 xv1 s0 h kc ks Q) (isO h a0 13 (m_X12_writes E a0 xv1 h 0 0 (fun x44 h45 =>
 br (x44 = 0) (Q h45) (gR h45 a0 13 28 fun r48 =>
 nN r48 fun a50 => sI E h45 0 a50 xv1 3 fun h51 =>
 m_X12_typePin_L96 E a0 xv1 s0 h51 kc ks Q))))
def m_X12_typePin (E : Ev) (a0 : Nat) (xp1 : Int32) (h : Hp) (kc ks : Nat) (Q : Hp → Prop) : Prop := gR h a0 13 28 fun r2 =>
  nN r2 fun a4 => aI E h 0 a4 xp1 fun x5 =>
  br (x5 = 0) (gR h a0 13 31 fun r30 =>
  nN r30 fun a32 => sI E h 0 a32 xp1 2 fun h33 =>
  gR h33 a0 13 18 fun r35 =>
  nN r35 fun a37 => sL E h33 1 a37 6 2 fun h38 =>
  isO h38 a0 13 (m_X12_reply E a0 4 xp1 h38 0 0 (fun h41 =>
 Q h41))) (isO h a0 13 (m_X12_writes E a0 xp1 h 0 0 (fun x8 h9 =>
 br (x8 = 0) (Q h9) (gR h9 a0 13 28 fun r12 =>
 nN r12 fun a14 => aI E h9 0 a14 xp1 fun x15 =>
 sI E h9 0 a14 xp1 (x15 - 1) fun h17 =>
 gR h17 a0 13 17 fun r19 =>
 nN r19 fun a21 => aL E h17 1 a21 9 fun y22 =>
 gR h17 a0 13 22 fun r24 =>
 nN r24 fun a26 => aI E h17 0 a26 xp1 fun x27 =>
 br ((lg_cmp y22 x27.toInt64) = 0) (m_X12_typePin_L75 E a0 xp1 1 h17 kc ks Q) (m_X12_typePin_L75 E a0 xp1 0 h17 kc ks Q)))))
def m_X12_answer_L373 (E : Ev) (a0 : Nat) (xv1 : Int32) (s0 : Int32) (s1 : Int32) (s2 : Option Nat) (h : Hp) (kc ks : Nat) (Q : Hp → Prop) : Prop := nN s2 fun a211 => sI E h 0 a211 s1 s0 fun h212 =>
  isO h212 a0 13 (m_X12_reply E a0 6 xv1 h212 0 0 (fun h215 =>
 Q h215))
def m_X12_answer_L97 (E : Ev) (a0 : Nat) (xv1 : Int32) (yv4 : Int64) (xv6 : Int32) (h : Hp) (kc ks : Nat) (Q : Hp → Prop) : Prop := gR h a0 13 32 fun r48 =>
  nN r48 fun a50 => sL E h 1 a50 xv1 yv4 fun h51 =>
  gR h51 a0 13 33 fun r53 =>
  gR h51 a0 13 17 fun r55 =>
  nN r55 fun a57 => aL E h51 1 a57 4 fun y58 =>
  nN r53 fun a60 => sL E h51 1 a60 xv1 y58 fun h61 =>
  gR h61 a0 13 34 fun r63 =>
  gR h61 a0 13 17 fun r65 =>
  nN r65 fun a67 => aL E h61 1 a67 5 fun y68 =>
  nN r63 fun a70 => sL E h61 1 a70 xv1 y68 fun h71 =>
  isO h71 a0 13 (m_X12_begin E a0 6 h71 0 0 (fun h74 =>
 isO h74 a0 13 (m_X12_more E a0 xv6.toInt64 h74 0 0 (fun h77 =>
 isO h77 a0 13 (m_X12_more E a0 yv4 h77 0 0 (fun h80 =>
 gR h80 a0 13 17 fun r82 =>
 nN r82 fun a84 => aL E h80 1 a84 4 fun y85 =>
 isO h80 a0 13 (m_X12_more E a0 y85 h80 0 0 (fun h88 =>
 gR h88 a0 13 17 fun r90 =>
 nN r90 fun a92 => aL E h88 1 a92 5 fun y93 =>
 isO h88 a0 13 (m_X12_more E a0 y93 h88 0 0 (fun h96 =>
 gR h96 a0 13 27 fun r98 =>
 nN r98 fun a100 => aI E h96 0 a100 xv1 fun x101 =>
 isO h96 a0 13 (m_X12_more E a0 x101.toInt64 h96 0 0 (fun h104 =>
 gR h104 a0 13 31 fun r106 =>
 nN r106 fun a108 => aI E h104 0 a108 xv1 fun x109 =>
 isO h104 a0 13 (m_X12_more E a0 x109.toInt64 h104 0 0 (fun h112 =>
 gR h112 a0 13 18 fun r114 =>
 gR h112 a0 13 27 fun r116 =>
 nN r116 fun a118 => aI E h112 0 a118 xv1 fun x119 =>
 nN r114 fun a121 => sL E h112 1 a121 2 x119.toInt64 fun h122 =>
 gR h122 a0 13 18 fun r124 =>
 gR h122 a0 13 31 fun r126 =>
 nN r126 fun a128 => aI E h122 0 a128 xv1 fun x129 =>
 nN r124 fun a131 => sL E h122 1 a131 6 x129.toInt64 fun h132 =>
 gR h132 a0 13 18 fun r134 =>
 nN r134 fun a136 => sL E h132 1 a136 7 xv6.toInt64 fun h137 =>
 gR h137 a0 13 18 fun r139 =>
 isO h137 a0 13 (m_X12_seal E a0 0 xv1.toInt64 h137 0 0 (fun x141 h142 =>
 nN r139 fun a144 => sL E h142 1 a144 8 x141.toInt64 fun h145 =>
 gI h145 a0 13 59 fun x147 =>
 gR h145 a0 13 60 fun r149 =>
 nN r149 fun a151 => sL E h145 1 a151 (7 * x147) xv1.toInt64 fun h152 =>
 gR h152 a0 13 60 fun r154 =>
 gR h152 a0 13 27 fun r156 =>
 nN r156 fun a158 => aI E h152 0 a158 xv1 fun x159 =>
 nN r154 fun a161 => sL E h152 1 a161 ((7 * x147) + 1) x159.toInt64 fun h162 =>
 gR h162 a0 13 60 fun r164 =>
 nN r164 fun a166 => sL E h162 1 a166 ((7 * x147) + 2) yv4 fun h167 =>
 gR h167 a0 13 60 fun r169 =>
 gR h167 a0 13 17 fun r171 =>
 nN r171 fun a173 => aL E h167 1 a173 4 fun y174 =>
 nN r169 fun a176 => sL E h167 1 a176 ((7 * x147) + 3) y174 fun h177 =>
 gR h177 a0 13 60 fun r179 =>
 gR h177 a0 13 17 fun r181 =>
 nN r181 fun a183 => aL E h177 1 a183 5 fun y184 =>
 nN r179 fun a186 => sL E h177 1 a186 ((7 * x147) + 4) y184 fun h187 =>
 gR h187 a0 13 60 fun r189 =>
 gR h187 a0 13 31 fun r191 =>
 nN r191 fun a193 => aI E h187 0 a193 xv1 fun x194 =>
 nN r189 fun a196 => sL E h187 1 a196 ((7 * x147) + 5) x194.toInt64 fun h197 =>
 gR h197 a0 13 60 fun r199 =>
 nN r199 fun a201 => sL E h197 1 a201 ((7 * x147) + 6) xv6.toInt64 fun h202 =>
 gI h202 a0 13 59 fun x204 =>
 pV h202 a0 13 59 (.int (x204 + 1)) fun h206 =>
 gR h206 a0 13 30 fun r208 =>
 br (xv6 = 1) (m_X12_answer_L373 E a0 xv1 2 xv1 r208 h206 kc ks Q) (m_X12_answer_L373 E a0 xv1 0 xv1 r208 h206 kc ks Q)))))))))))))))))
def m_X12_answer_L34 (E : Ev) (a0 : Nat) (xv1 : Int32) (yv4 : Int64) (h : Hp) (kc ks : Nat) (Q : Hp → Prop) : Prop := m_X12_answer_L97 E a0 xv1 yv4 0 h kc ks Q
def m_X12_answer (E : Ev) (a0 : Nat) (xp1 : Int32) (h : Hp) (kc ks : Nat) (Q : Hp → Prop) : Prop := gR h a0 13 17 fun r2 =>
  nN r2 fun a4 => aL E h 1 a4 7 fun y5 =>
  gR h a0 13 17 fun r7 =>
  nN r7 fun a9 => aL E h 1 a9 3 fun y10 =>
  gR h a0 13 28 fun r12 =>
  nN r12 fun a14 => aI E h 0 a14 xp1 fun x15 =>
  br (x15 = 0) (m_X12_answer_L34 E a0 xp1 y10 h kc ks Q) (br ((lg_cmp y5 0) = 0) (m_X12_answer_L34 E a0 xp1 y10 h kc ks Q) (br ((lg_cmp y5 2) = 0) (gR h a0 13 23 fun r20 =>
  nN r20 fun a22 => aL E h 1 a22 xp1 fun y23 =>
  br (0 < (lg_cmp y10 y23)) (m_X12_answer_L97 E a0 xp1 y10 1 h kc ks Q) (gR h a0 13 29 fun r26 =>
  nN r26 fun a28 => aI E h 0 a28 xp1 fun x29 =>
  gR h a0 13 24 fun r31 =>
  nN r31 fun a33 => aI E h 0 a33 xp1 fun x34 =>
  br (x34 ≤ x29) (m_X12_answer_L97 E a0 xp1 y10 1 h kc ks Q) (isO h a0 13 (m_X12_writes E a0 xp1 h 0 0 (fun x37 h38 =>
 br (x37 = 0) (Q h38) (gR h38 a0 13 29 fun r41 =>
 nN r41 fun a43 => aI E h38 0 a43 xp1 fun x44 =>
 sI E h38 0 a43 xp1 (x44 + 1) fun h46 =>
 m_X12_answer_L97 E a0 xp1 y10 2 h46 kc ks Q)))))) (m_X12_answer_L97 E a0 xp1 y10 1 h kc ks Q)))
def m_X12_finish_L99 (E : Ev) (a0 : Nat) (xv1 : Int32) (s0 : Int32) (h : Hp) (kc ks : Nat) (Q : Hp → Prop) : Prop := isO h a0 13 (m_X12_begin E a0 10 h 0 0 (fun h51 =>
 isO h51 a0 13 (m_X12_more E a0 s0.toInt64 h51 0 0 (fun h54 =>
 gR h54 a0 13 32 fun r56 =>
 nN r56 fun a58 => aL E h54 1 a58 xv1 fun y59 =>
 isO h54 a0 13 (m_X12_more E a0 y59 h54 0 0 (fun h62 =>
 gR h62 a0 13 33 fun r64 =>
 nN r64 fun a66 => aL E h62 1 a66 xv1 fun y67 =>
 isO h62 a0 13 (m_X12_more E a0 y67 h62 0 0 (fun h70 =>
 gR h70 a0 13 34 fun r72 =>
 nN r72 fun a74 => aL E h70 1 a74 xv1 fun y75 =>
 isO h70 a0 13 (m_X12_more E a0 y75 h70 0 0 (fun h78 =>
 gR h78 a0 13 27 fun r80 =>
 nN r80 fun a82 => aI E h78 0 a82 xv1 fun x83 =>
 isO h78 a0 13 (m_X12_more E a0 x83.toInt64 h78 0 0 (fun h86 =>
 gR h86 a0 13 18 fun r88 =>
 nN r88 fun a90 => sL E h86 1 a90 7 s0.toInt64 fun h91 =>
 gR h91 a0 13 18 fun r93 =>
 isO h91 a0 13 (m_X12_seal E a0 0 xv1.toInt64 h91 0 0 (fun x95 h96 =>
 nN r93 fun a98 => sL E h96 1 a98 8 x95.toInt64 fun h99 =>
 gR h99 a0 13 30 fun r101 =>
 nN r101 fun a103 => sI E h99 0 a103 xv1 0 fun h104 =>
 isO h104 a0 13 (m_X12_reply E a0 10 xv1 h104 0 0 (fun h107 =>
 Q h107))))))))))))))))
def m_X12_finish_L90 (E : Ev) (a0 : Nat) (xv1 : Int32) (xv2 : Int32) (h : Hp) (kc ks : Nat) (Q : Hp → Prop) : Prop := br (xv2 = 0) (m_X12_finish_L99 E a0 xv1 0 h kc ks Q) (m_X12_finish_L99 E a0 xv1 2 h kc ks Q)
def m_X12_finish_L69 (E : Ev) (a0 : Nat) (xv1 : Int32) (s0 : Int32) (h : Hp) (kc ks : Nat) (Q : Hp → Prop) : Prop := br (s0 = 0) (m_X12_finish_L90 E a0 xv1 s0 h kc ks Q) (isO h a0 13 (m_X12_writes E a0 xv1 h 0 0 (fun x40 h41 =>
 br (x40 = 0) (Q h41) (gR h41 a0 13 29 fun r44 =>
 nN r44 fun a46 => sI E h41 0 a46 xv1 0 fun h47 =>
 m_X12_finish_L90 E a0 xv1 s0 h47 kc ks Q))))
def m_X12_finish_L68 (E : Ev) (a0 : Nat) (xv1 : Int32) (h : Hp) (kc ks : Nat) (Q : Hp → Prop) : Prop := m_X12_finish_L69 E a0 xv1 0 h kc ks Q
def m_X12_finish (E : Ev) (a0 : Nat) (xp1 : Int32) (h : Hp) (kc ks : Nat) (Q : Hp → Prop) : Prop := isO h a0 13 (m_X12_begin E a0 8 h 0 0 (fun h3 =>
 isO h3 a0 13 (m_X12_more E a0 xp1.toInt64 h3 0 0 (fun h6 =>
 gR h6 a0 13 27 fun r8 =>
 nN r8 fun a10 => aI E h6 0 a10 xp1 fun x11 =>
 isO h6 a0 13 (m_X12_more E a0 x11.toInt64 h6 0 0 (fun h14 =>
 gR h14 a0 13 17 fun r16 =>
 nN r16 fun a18 => aL E h14 1 a18 10 fun y19 =>
 isO h14 a0 13 (m_X12_more E a0 y19 h14 0 0 (fun h22 =>
 gR h22 a0 13 17 fun r24 =>
 nN r24 fun a26 => aL E h22 1 a26 10 fun y27 =>
 br ((lg_cmp y27 1) = 0) (gR h22 a0 13 17 fun r30 =>
 nN r30 fun a32 => aL E h22 1 a32 8 fun y33 =>
 isO h22 a0 13 (m_X12_isGood E a0 2 xp1.toInt64 y33 h22 0 0 (fun x35 h36 =>
 br (x35 = 0) (m_X12_finish_L68 E a0 xp1 h36 kc ks Q) (m_X12_finish_L69 E a0 xp1 1 h36 kc ks Q)))) (m_X12_finish_L68 E a0 xp1 h22 kc ks Q)))))))))
def m_X12_toCard_L170 (E : Ev) (a0 : Nat) (xv1 : Int32) (xv2 : Int32) (h : Hp) (kc ks : Nat) (Q : Int32 → Hp → Prop) : Prop := br (xv2 = 9) (gR h a0 13 30 fun r99 =>
  nN r99 fun a101 => aI E h 0 a101 xv1 fun x102 =>
  br (x102 = 2) (isO h a0 13 (m_X12_finish E a0 xv1 h 0 0 (fun h106 =>
 Q 1 h106))) (Q 0 h)) (Q 0 h)
def m_X12_toCard_L148 (E : Ev) (a0 : Nat) (xv1 : Int32) (xv2 : Int32) (h : Hp) (kc ks : Nat) (Q : Int32 → Hp → Prop) : Prop := br (xv2 = 5) (gR h a0 13 30 fun r89 =>
  nN r89 fun a91 => aI E h 0 a91 xv1 fun x92 =>
  br (x92 = 1) (isO h a0 13 (m_X12_answer E a0 xv1 h 0 0 (fun h96 =>
 Q 1 h96))) (m_X12_toCard_L170 E a0 xv1 xv2 h kc ks Q)) (m_X12_toCard_L170 E a0 xv1 xv2 h kc ks Q)
def m_X12_toCard_L126 (E : Ev) (a0 : Nat) (xv1 : Int32) (xv2 : Int32) (h : Hp) (kc ks : Nat) (Q : Int32 → Hp → Prop) : Prop := br (xv2 = 3) (gR h a0 13 30 fun r79 =>
  nN r79 fun a81 => aI E h 0 a81 xv1 fun x82 =>
  br (x82 = 1) (isO h a0 13 (m_X12_typePin E a0 xv1 h 0 0 (fun h86 =>
 Q 1 h86))) (m_X12_toCard_L148 E a0 xv1 xv2 h kc ks Q)) (m_X12_toCard_L148 E a0 xv1 xv2 h kc ks Q)
def m_X12_toCard (E : Ev) (a0 : Nat) (xp1 : Int32) (xp2 : Int32) (h : Hp) (kc ks : Nat) (Q : Int32 → Hp → Prop) : Prop := br (xp2 = 1) (gR h a0 13 27 fun r3 =>
  nN r3 fun a5 => aI E h 0 a5 xp1 fun x6 =>
  br (60000 ≤ x6) (m_X12_toCard_L126 E a0 xp1 xp2 h kc ks Q) (isO h a0 13 (m_X12_writes E a0 xp1 h 0 0 (fun x9 h10 =>
 br (x9 = 0) (Q 1 h10) (gR h10 a0 13 27 fun r13 =>
 nN r13 fun a15 => aI E h10 0 a15 xp1 fun x16 =>
 sI E h10 0 a15 xp1 (x16 + 1) fun h18 =>
 gR h18 a0 13 30 fun r20 =>
 nN r20 fun a22 => sI E h18 0 a22 xp1 1 fun h23 =>
 gR h23 a0 13 31 fun r25 =>
 nN r25 fun a27 => sI E h23 0 a27 xp1 0 fun h28 =>
 isO h28 a0 13 (m_X12_begin E a0 2 h28 0 0 (fun h31 =>
 isO h31 a0 13 (m_X12_more E a0 xp1.toInt64 h31 0 0 (fun h34 =>
 gR h34 a0 13 27 fun r36 =>
 nN r36 fun a38 => aI E h34 0 a38 xp1 fun x39 =>
 isO h34 a0 13 (m_X12_more E a0 x39.toInt64 h34 0 0 (fun h42 =>
 gR h42 a0 13 17 fun r44 =>
 nN r44 fun a46 => aL E h42 1 a46 4 fun y47 =>
 isO h42 a0 13 (m_X12_more E a0 y47 h42 0 0 (fun h50 =>
 gR h50 a0 13 18 fun r52 =>
 nN r52 fun a54 => sL E h50 1 a54 1 xp1.toInt64 fun h55 =>
 gR h55 a0 13 18 fun r57 =>
 gR h55 a0 13 27 fun r59 =>
 nN r59 fun a61 => aI E h55 0 a61 xp1 fun x62 =>
 nN r57 fun a64 => sL E h55 1 a64 2 x62.toInt64 fun h65 =>
 gR h65 a0 13 18 fun r67 =>
 isO h65 a0 13 (m_X12_seal E a0 0 xp1.toInt64 h65 0 0 (fun x69 h70 =>
 nN r67 fun a72 => sL E h70 1 a72 8 x69.toInt64 fun h73 =>
 isO h73 a0 13 (m_X12_reply E a0 2 xp1 h73 0 0 (fun h76 =>
 Q 1 h76))))))))))))))))) (m_X12_toCard_L126 E a0 xp1 xp2 h kc ks Q)
def m_X12_end (E : Ev) (a0 : Nat) (xp1 : Int32) (xp2 : Int32) (h : Hp) (kc ks : Nat) (Q : Hp → Prop) : Prop := gR h a0 13 40 fun r2 =>
  nN r2 fun a4 => sI E h 0 a4 xp1 xp2 fun h5 =>
  gR h5 a0 13 41 fun r7 =>
  nN r7 fun a9 => sI E h5 0 a9 xp1 0 fun h10 =>
  Q h10
def m_X12_toItsCard (E : Ev) (a0 : Nat) (xp1 : Int32) (xp2 : Int32) (xp3 : Int32) (h : Hp) (kc ks : Nat) (Q : Hp → Prop) : Prop := gR h a0 13 43 fun r2 =>
  nN r2 fun a4 => aI E h 0 a4 xp1 fun x5 =>
  isO h a0 13 (m_X12_send E a0 xp2 1 xp1 0 x5 h 0 0 (fun x7 h8 =>
 gR h8 a0 13 41 fun r10 =>
 nN r10 fun a12 => sI E h8 0 a12 xp1 xp3 fun h13 =>
 gR h13 a0 13 42 fun r15 =>
 gL h13 a0 13 52 fun y17 =>
 nN r15 fun a19 => sL E h13 1 a19 xp1 y17 fun h20 =>
 Q h20))
def m_X12_ask_L61 (E : Ev) (a0 : Nat) (xv1 : Int32) (s0 : Int64) (s1 : Int32) (s2 : Option Nat) (h : Hp) (kc ks : Nat) (Q : Hp → Prop) : Prop := nN s2 fun a40 => sL E h 1 a40 s1 s0 fun h41 =>
  isO h41 a0 13 (m_X12_toItsCard E a0 xv1 5 6 h41 0 0 (fun h44 =>
 Q h44))
def m_X12_ask (E : Ev) (a0 : Nat) (xp1 : Int32) (h : Hp) (kc ks : Nat) (Q : Hp → Prop) : Prop := gR h a0 13 18 fun r2 =>
  gR h a0 13 44 fun r4 =>
  nN r4 fun a6 => aL E h 1 a6 xp1 fun y7 =>
  nN r2 fun a9 => sL E h 1 a9 3 y7 fun h10 =>
  gR h10 a0 13 18 fun r12 =>
  gR h10 a0 13 45 fun r14 =>
  nN r14 fun a16 => aL E h10 1 a16 xp1 fun y17 =>
  nN r12 fun a19 => sL E h10 1 a19 4 y17 fun h20 =>
  gR h20 a0 13 18 fun r22 =>
  nN r22 fun a24 => sL E h20 1 a24 5 xp1.toInt64 fun h25 =>
  gR h25 a0 13 18 fun r27 =>
  gR h25 a0 13 44 fun r29 =>
  nN r29 fun a31 => aL E h25 1 a31 xp1 fun y32 =>
  gR h25 a0 13 37 fun r34 =>
  nN r34 fun a36 => aL E h25 1 a36 xp1 fun y37 =>
  br (0 < (lg_cmp y32 y37)) (m_X12_ask_L61 E a0 xp1 1 7 r27 h25 kc ks Q) (m_X12_ask_L61 E a0 xp1 2 7 r27 h25 kc ks Q)
def m_X12_takeCard_L73 (E : Ev) (a0 : Nat) (xv1 : Int32) (h : Hp) (kc ks : Nat) (Q : Hp → Prop) : Prop := isO h a0 13 (m_X12_end E a0 xv1 3 h 0 0 (fun h104 =>
 Q h104))
def m_X12_takeCard (E : Ev) (a0 : Nat) (xp1 : Int32) (h : Hp) (kc ks : Nat) (Q : Hp → Prop) : Prop := isO h a0 13 (m_X12_begin E a0 2 h 0 0 (fun h3 =>
 gR h3 a0 13 17 fun r5 =>
 nN r5 fun a7 => aL E h3 1 a7 1 fun y8 =>
 isO h3 a0 13 (m_X12_more E a0 y8 h3 0 0 (fun h11 =>
 gR h11 a0 13 17 fun r13 =>
 nN r13 fun a15 => aL E h11 1 a15 2 fun y16 =>
 isO h11 a0 13 (m_X12_more E a0 y16 h11 0 0 (fun h19 =>
 gR h19 a0 13 45 fun r21 =>
 nN r21 fun a23 => aL E h19 1 a23 xp1 fun y24 =>
 isO h19 a0 13 (m_X12_more E a0 y24 h19 0 0 (fun h27 =>
 gR h27 a0 13 17 fun r29 =>
 nN r29 fun a31 => aL E h27 1 a31 1 fun y32 =>
 gI h27 a0 13 21 fun x34 =>
 br (0 ≤ (lg_cmp y32 x34.toInt64)) (m_X12_takeCard_L73 E a0 xp1 h27 kc ks Q) (gR h27 a0 13 17 fun r37 =>
 nN r37 fun a39 => aL E h27 1 a39 1 fun y40 =>
 gR h27 a0 13 17 fun r42 =>
 nN r42 fun a44 => aL E h27 1 a44 8 fun y45 =>
 isO h27 a0 13 (m_X12_isGood E a0 0 y40 y45 h27 0 0 (fun x47 h48 =>
 br (x47 = 0) (m_X12_takeCard_L73 E a0 xp1 h48 kc ks Q) (gR h48 a0 13 47 fun r51 =>
 gR h48 a0 13 17 fun r53 =>
 nN r53 fun a55 => aL E h48 1 a55 1 fun y56 =>
 nN r51 fun a58 => sI E h48 0 a58 xp1 y56.toInt32 fun h59 =>
 gR h59 a0 13 48 fun r61 =>
 gR h59 a0 13 17 fun r63 =>
 nN r63 fun a65 => aL E h59 1 a65 2 fun y66 =>
 nN r61 fun a68 => sI E h59 0 a68 xp1 y66.toInt32 fun h69 =>
 gR h69 a0 13 44 fun r71 =>
 nN r71 fun a73 => aL E h69 1 a73 xp1 fun y74 =>
 gR h69 a0 13 38 fun r76 =>
 nN r76 fun a78 => aL E h69 1 a78 xp1 fun y79 =>
 br ((lg_cmp y74 y79) < 0) (gR h69 a0 13 49 fun r82 =>
 nN r82 fun a84 => sI E h69 0 a84 xp1 0 fun h85 =>
 isO h85 a0 13 (m_X12_ask E a0 xp1 h85 0 0 (fun h88 =>
 Q h88))) (gR h69 a0 13 18 fun r90 =>
 gR h69 a0 13 46 fun r92 =>
 nN r92 fun a94 => aI E h69 0 a94 xp1 fun x95 =>
 nN r90 fun a97 => sL E h69 1 a97 9 x95.toInt64 fun h98 =>
 isO h98 a0 13 (m_X12_toItsCard E a0 xp1 3 4 h98 0 0 (fun h101 =>
 Q h101)))))))))))))))
def m_X12_fill (E : Ev) (a0 : Nat) (xp1 : Int32) (yp2 : Int64) (yp4 : Int64) (h : Hp) (kc ks : Nat) (Q : Hp → Prop) : Prop := gR h a0 13 18 fun r2 =>
  gR h a0 13 47 fun r4 =>
  nN r4 fun a6 => aI E h 0 a6 xp1 fun x7 =>
  nN r2 fun a9 => sL E h 1 a9 1 x7.toInt64 fun h10 =>
  gR h10 a0 13 18 fun r12 =>
  nN r12 fun a14 => sL E h10 1 a14 2 yp2 fun h15 =>
  gR h15 a0 13 18 fun r17 =>
  gR h15 a0 13 44 fun r19 =>
  nN r19 fun a21 => aL E h15 1 a21 xp1 fun y22 =>
  nN r17 fun a24 => sL E h15 1 a24 3 y22 fun h25 =>
  gR h25 a0 13 18 fun r27 =>
  gR h25 a0 13 45 fun r29 =>
  nN r29 fun a31 => aL E h25 1 a31 xp1 fun y32 =>
  nN r27 fun a34 => sL E h25 1 a34 4 y32 fun h35 =>
  gR h35 a0 13 18 fun r37 =>
  nN r37 fun a39 => sL E h35 1 a39 5 xp1.toInt64 fun h40 =>
  gR h40 a0 13 18 fun r42 =>
  gR h40 a0 13 49 fun r44 =>
  nN r44 fun a46 => aI E h40 0 a46 xp1 fun x47 =>
  nN r42 fun a49 => sL E h40 1 a49 6 x47.toInt64 fun h50 =>
  gR h50 a0 13 18 fun r52 =>
  nN r52 fun a54 => sL E h50 1 a54 8 yp4 fun h55 =>
  Q h55
def m_X12_sign_L30 (E : Ev) (a0 : Nat) (xv1 : Int32) (xv3 : Int32) (h : Hp) (kc ks : Nat) (K8 : Nat → Int32 → Int32 → Hp → Nat → Nat → Prop) (Q : Hp → Prop) : Prop := K8 a0 xv1 (xv3 + 1) h kc ks
def m_X12_sign_L8 (n : Nat) (E : Ev) (a0 : Nat) (xv1 : Int32) (xv3 : Int32) (h : Hp) (kc ks : Nat) (Q : Hp → Prop) : Prop := match n with
  | 0 => False
  | n + 1 => br (8 < xv3) (gR h a0 13 18 fun r7 =>
  isO h a0 13 (m_X12_seal E a0 1 xv1.toInt64 h 0 0 (fun x9 h10 =>
 nN r7 fun a12 => sL E h10 1 a12 11 x9.toInt64 fun h13 =>
 Q h13))) (br (xv3 = 7) (m_X12_sign_L30 E a0 xv1 xv3 h kc ks (fun a0k xv1k xv3k hk kck ksk => m_X12_sign_L8 n E a0k xv1k xv3k hk kck ksk Q) Q) (gR h a0 13 18 fun r16 =>
  nN r16 fun a18 => aL E h 1 a18 xv3 fun y19 =>
  isO h a0 13 (m_X12_more E a0 y19 h 0 0 (fun h22 =>
 m_X12_sign_L30 E a0 xv1 xv3 h22 kc ks (fun a0k xv1k xv3k hk kck ksk => m_X12_sign_L8 n E a0k xv1k xv3k hk kck ksk Q) Q))))
def m_X12_sign (E : Ev) (a0 : Nat) (xp1 : Int32) (xp2 : Int32) (h : Hp) (kc ks : Nat) (Q : Hp → Prop) : Prop := isO h a0 13 (m_X12_begin E a0 xp2.toInt64 h 0 0 (fun h3 =>
 ∃ n4, m_X12_sign_L8 n4 E a0 xp1 1 h3 kc ks Q))
def m_X12_takeAnswer_L26 (E : Ev) (a0 : Nat) (xv1 : Int32) (h : Hp) (kc ks : Nat) (Q : Hp → Prop) : Prop := isO h a0 13 (m_X12_end E a0 xv1 3 h 0 0 (fun h155 =>
 Q h155))
def m_X12_takeAnswer_L231 (E : Ev) (a0 : Nat) (xv1 : Int32) (h : Hp) (kc ks : Nat) (Q : Hp → Prop) : Prop := isO h a0 13 (m_X12_end E a0 xv1 3 h 0 0 (fun h158 =>
 Q h158))
def m_X12_takeAnswer_L297 (E : Ev) (a0 : Nat) (xv1 : Int32) (xv2 : Int32) (xv3 : Int32) (s0 : Int32) (s1 : Option Nat) (s2 : Int32) (s3 : Option Nat) (h : Hp) (kc ks : Nat) (K266 : Nat → Int32 → Int32 → Int32 → Hp → Nat → Nat → Prop) (Q : Hp → Prop) : Prop := nN s1 fun a187 => aL E h 1 a187 s0 fun y188 =>
  nN s3 fun a190 => sL E h 1 a190 s2 y188 fun h191 =>
  K266 a0 xv1 xv2 (xv3 + 1) h191 kc ks
def m_X12_takeAnswer_L266 (n : Nat) (E : Ev) (a0 : Nat) (xv1 : Int32) (xv2 : Int32) (xv3 : Int32) (h : Hp) (kc ks : Nat) (Q : Hp → Prop) : Prop := match n with
  | 0 => False
  | n + 1 => br (7 ≤ xv3) (gR h a0 13 54 fun r161 =>
  gI h a0 13 53 fun x163 =>
  nN r161 fun a165 => sI E h 0 a165 x163 xv1 fun h166 =>
  gR h166 a0 13 55 fun r168 =>
  gI h166 a0 13 53 fun x170 =>
  nN r168 fun a172 => sZ E h166 2 a172 x170 0 fun h173 =>
  gI h173 a0 13 53 fun x175 =>
  pV h173 a0 13 53 (.int (x175 + 1)) fun h177 =>
  isO h177 a0 13 (m_X12_end E a0 xv1 2 h177 0 0 (fun h180 =>
 Q h180))) (gR h a0 13 56 fun r182 =>
  gR h a0 13 18 fun r184 =>
  br (6 ≤ xv3) (m_X12_takeAnswer_L297 E a0 xv1 xv2 xv3 8 r184 (xv2 + xv3) r182 h kc ks (fun a0k xv1k xv2k xv3k hk kck ksk => m_X12_takeAnswer_L266 n E a0k xv1k xv2k xv3k hk kck ksk Q) Q) (m_X12_takeAnswer_L297 E a0 xv1 xv2 xv3 (xv3 + 1) r184 (xv2 + xv3) r182 h kc ks (fun a0k xv1k xv2k xv3k hk kck ksk => m_X12_takeAnswer_L266 n E a0k xv1k xv2k xv3k hk kck ksk Q) Q))
def m_X12_takeAnswer (E : Ev) (a0 : Nat) (xp1 : Int32) (h : Hp) (kc ks : Nat) (Q : Hp → Prop) : Prop := gR h a0 13 17 fun r2 =>
  nN r2 fun a4 => aL E h 1 a4 7 fun y5 =>
  br ((lg_cmp y5 0) = 0) (m_X12_takeAnswer_L26 E a0 xp1 h kc ks Q) (gR h a0 13 17 fun r8 =>
  nN r8 fun a10 => aL E h 1 a10 7 fun y11 =>
  br ((lg_cmp y11 2) ≤ 0) (gR h a0 13 17 fun r14 =>
  nN r14 fun a16 => aL E h 1 a16 7 fun y17 =>
  br ((lg_cmp y17 1) = 0) (gR h a0 13 17 fun r113 =>
  nN r113 fun a115 => aL E h 1 a115 2 fun y116 =>
  gR h a0 13 17 fun r118 =>
  nN r118 fun a120 => aL E h 1 a120 8 fun y121 =>
  isO h a0 13 (m_X12_fill E a0 xp1 y116 y121 h 0 0 (fun h124 =>
 gR h124 a0 13 50 fun r126 =>
 gR h124 a0 13 17 fun r128 =>
 nN r128 fun a130 => aL E h124 1 a130 2 fun y131 =>
 nN r126 fun a133 => sI E h124 0 a133 xp1 y131.toInt32 fun h134 =>
 isO h134 a0 13 (m_X12_sign E a0 xp1 7 h134 0 0 (fun h137 =>
 isO h137 a0 13 (m_X12_send E a0 7 1 xp1 2 0 h137 0 0 (fun x139 h140 =>
 gR h140 a0 13 41 fun r142 =>
 nN r142 fun a144 => sI E h140 0 a144 xp1 8 fun h145 =>
 gR h145 a0 13 42 fun r147 =>
 gL h145 a0 13 52 fun y149 =>
 nN r147 fun a151 => sL E h145 1 a151 xp1 y149 fun h152 =>
 Q h152))))))) (isO h a0 13 (m_X12_begin E a0 6 h 0 0 (fun h21 =>
 isO h21 a0 13 (m_X12_more E a0 2 h21 0 0 (fun h24 =>
 gR h24 a0 13 44 fun r26 =>
 nN r26 fun a28 => aL E h24 1 a28 xp1 fun y29 =>
 isO h24 a0 13 (m_X12_more E a0 y29 h24 0 0 (fun h32 =>
 gR h32 a0 13 45 fun r34 =>
 nN r34 fun a36 => aL E h32 1 a36 xp1 fun y37 =>
 isO h32 a0 13 (m_X12_more E a0 y37 h32 0 0 (fun h40 =>
 isO h40 a0 13 (m_X12_more E a0 xp1.toInt64 h40 0 0 (fun h43 =>
 gR h43 a0 13 17 fun r45 =>
 nN r45 fun a47 => aL E h43 1 a47 2 fun y48 =>
 isO h43 a0 13 (m_X12_more E a0 y48 h43 0 0 (fun h51 =>
 gR h51 a0 13 49 fun r53 =>
 nN r53 fun a55 => aI E h51 0 a55 xp1 fun x56 =>
 isO h51 a0 13 (m_X12_more E a0 x56.toInt64 h51 0 0 (fun h59 =>
 gR h59 a0 13 17 fun r61 =>
 nN r61 fun a63 => aL E h59 1 a63 2 fun y64 =>
 gR h59 a0 13 48 fun r66 =>
 nN r66 fun a68 => aI E h59 0 a68 xp1 fun x69 =>
 br ((lg_cmp y64 x69.toInt64) = 0) (gR h59 a0 13 17 fun r72 =>
 nN r72 fun a74 => aL E h59 1 a74 6 fun y75 =>
 gR h59 a0 13 49 fun r77 =>
 nN r77 fun a79 => aI E h59 0 a79 xp1 fun x80 =>
 br ((lg_cmp y75 x80.toInt64) = 0) (gR h59 a0 13 47 fun r83 =>
 nN r83 fun a85 => aI E h59 0 a85 xp1 fun x86 =>
 gR h59 a0 13 17 fun r88 =>
 nN r88 fun a90 => aL E h59 1 a90 8 fun y91 =>
 isO h59 a0 13 (m_X12_isGood E a0 0 x86.toInt64 y91 h59 0 0 (fun x93 h94 =>
 br (x93 = 0) (m_X12_takeAnswer_L231 E a0 xp1 h94 kc ks Q) (gR h94 a0 13 17 fun r97 =>
 nN r97 fun a99 => aL E h94 1 a99 2 fun y100 =>
 gR h94 a0 13 17 fun r102 =>
 nN r102 fun a104 => aL E h94 1 a104 8 fun y105 =>
 isO h94 a0 13 (m_X12_fill E a0 xp1 y100 y105 h94 0 0 (fun h108 =>
 gI h108 a0 13 53 fun x110 =>
 ∃ n111, m_X12_takeAnswer_L266 n111 E a0 xp1 (7 * x110) 0 h108 kc ks Q)))))) (m_X12_takeAnswer_L231 E a0 xp1 h59 kc ks Q)) (m_X12_takeAnswer_L231 E a0 xp1 h59 kc ks Q))))))))))))))))) (m_X12_takeAnswer_L26 E a0 xp1 h kc ks Q))
def m_X12_takeWord (E : Ev) (a0 : Nat) (xp1 : Int32) (h : Hp) (kc ks : Nat) (Q : Int32 → Hp → Prop) : Prop := isO h a0 13 (m_X12_begin E a0 8 h 0 0 (fun h3 =>
 gR h3 a0 13 17 fun r5 =>
 nN r5 fun a7 => aL E h3 1 a7 1 fun y8 =>
 isO h3 a0 13 (m_X12_more E a0 y8 h3 0 0 (fun h11 =>
 gR h11 a0 13 17 fun r13 =>
 nN r13 fun a15 => aL E h11 1 a15 2 fun y16 =>
 isO h11 a0 13 (m_X12_more E a0 y16 h11 0 0 (fun h19 =>
 gR h19 a0 13 17 fun r21 =>
 nN r21 fun a23 => aL E h19 1 a23 10 fun y24 =>
 isO h19 a0 13 (m_X12_more E a0 y24 h19 0 0 (fun h27 =>
 gR h27 a0 13 44 fun r29 =>
 nN r29 fun a31 => aL E h27 1 a31 xp1 fun y32 =>
 isO h27 a0 13 (m_X12_more E a0 y32 h27 0 0 (fun h35 =>
 gR h35 a0 13 17 fun r37 =>
 nN r37 fun a39 => aL E h35 1 a39 1 fun y40 =>
 gR h35 a0 13 47 fun r42 =>
 nN r42 fun a44 => aI E h35 0 a44 xp1 fun x45 =>
 br ((lg_cmp y40 x45.toInt64) = 0) (gR h35 a0 13 17 fun r48 =>
 nN r48 fun a50 => aL E h35 1 a50 2 fun y51 =>
 gR h35 a0 13 50 fun r53 =>
 nN r53 fun a55 => aI E h35 0 a55 xp1 fun x56 =>
 br ((lg_cmp y51 x56.toInt64) = 0) (gR h35 a0 13 17 fun r59 =>
 nN r59 fun a61 => aL E h35 1 a61 11 fun y62 =>
 isO h35 a0 13 (m_X12_isGood E a0 1 xp1.toInt64 y62 h35 0 0 (fun x64 h65 =>
 br (x64 = 0) (Q 0 h65) (gR h65 a0 13 51 fun r68 =>
 gR h65 a0 13 17 fun r70 =>
 nN r70 fun a72 => aL E h65 1 a72 10 fun y73 =>
 nN r68 fun a75 => sI E h65 0 a75 xp1 y73.toInt32 fun h76 =>
 gR h76 a0 13 18 fun r78 =>
 gR h76 a0 13 17 fun r80 =>
 nN r80 fun a82 => aL E h76 1 a82 8 fun y83 =>
 nN r78 fun a85 => sL E h76 1 a85 8 y83 fun h86 =>
 gR h86 a0 13 18 fun r88 =>
 gR h86 a0 13 17 fun r90 =>
 nN r90 fun a92 => aL E h86 1 a92 10 fun y93 =>
 nN r88 fun a95 => sL E h86 1 a95 10 y93 fun h96 =>
 isO h96 a0 13 (m_X12_toItsCard E a0 xp1 9 10 h96 0 0 (fun h99 =>
 Q 1 h99)))))) (Q 0 h35)) (Q 0 h35)))))))))))
def m_X12_toTerminal_L225 (E : Ev) (s0 : Int32) (s1 : Int32) (s2 : Option Nat) (h : Hp) (kc ks : Nat) (Q : Int32 → Hp → Prop) : Prop := nN s2 fun a96 => isO h a96 13 (m_X12_end E a96 s1 s0 h 0 0 (fun h95 =>
 Q 1 h95))
def m_X12_toTerminal_L213 (E : Ev) (a0 : Nat) (xv1 : Int32) (s0 : Int32) (h : Hp) (kc ks : Nat) (Q : Int32 → Hp → Prop) : Prop := br (s0 = 0) (m_X12_toTerminal_L225 E 3 xv1 (some a0) h kc ks Q) (m_X12_toTerminal_L225 E 1 xv1 (some a0) h kc ks Q)
def m_X12_toTerminal_L212 (E : Ev) (a0 : Nat) (xv1 : Int32) (h : Hp) (kc ks : Nat) (Q : Int32 → Hp → Prop) : Prop := m_X12_toTerminal_L213 E a0 xv1 0 h kc ks Q
def m_X12_toTerminal_L111 (E : Ev) (a0 : Nat) (xv1 : Int32) (h : Hp) (kc ks : Nat) (Q : Int32 → Hp → Prop) : Prop := isO h a0 13 (m_X12_begin E a0 10 h 0 0 (fun h35 =>
 isO h35 a0 13 (m_X12_more E a0 2 h35 0 0 (fun h38 =>
 gR h38 a0 13 44 fun r40 =>
 nN r40 fun a42 => aL E h38 1 a42 xv1 fun y43 =>
 isO h38 a0 13 (m_X12_more E a0 y43 h38 0 0 (fun h46 =>
 gR h46 a0 13 45 fun r48 =>
 nN r48 fun a50 => aL E h46 1 a50 xv1 fun y51 =>
 isO h46 a0 13 (m_X12_more E a0 y51 h46 0 0 (fun h54 =>
 isO h54 a0 13 (m_X12_more E a0 xv1.toInt64 h54 0 0 (fun h57 =>
 gR h57 a0 13 50 fun r59 =>
 nN r59 fun a61 => aI E h57 0 a61 xv1 fun x62 =>
 isO h57 a0 13 (m_X12_more E a0 x62.toInt64 h57 0 0 (fun h65 =>
 gR h65 a0 13 51 fun r67 =>
 nN r67 fun a69 => aI E h65 0 a69 xv1 fun x70 =>
 br (x70 = 1) (gR h65 a0 13 17 fun r73 =>
 nN r73 fun a75 => aL E h65 1 a75 7 fun y76 =>
 br ((lg_cmp y76 2) = 0) (gR h65 a0 13 47 fun r79 =>
 nN r79 fun a81 => aI E h65 0 a81 xv1 fun x82 =>
 gR h65 a0 13 17 fun r84 =>
 nN r84 fun a86 => aL E h65 1 a86 8 fun y87 =>
 isO h65 a0 13 (m_X12_isGood E a0 0 x82.toInt64 y87 h65 0 0 (fun x89 h90 =>
 br (x89 = 0) (m_X12_toTerminal_L212 E a0 xv1 h90 kc ks Q) (m_X12_toTerminal_L213 E a0 xv1 1 h90 kc ks Q)))) (m_X12_toTerminal_L212 E a0 xv1 h65 kc ks Q)) (m_X12_toTerminal_L212 E a0 xv1 h65 kc ks Q)))))))))))))
def m_X12_toTerminal (E : Ev) (a0 : Nat) (xp1 : Int32) (xp2 : Int32) (h : Hp) (kc ks : Nat) (Q : Int32 → Hp → Prop) : Prop := gR h a0 13 41 fun r2 =>
  nN r2 fun a4 => aI E h 0 a4 xp1 fun x5 =>
  br (x5 = xp2) (br (xp2 = 2) (isO h a0 13 (m_X12_takeCard E a0 xp1 h 0 0 (fun h9 =>
 Q 1 h9))) (br (xp2 = 4) (gR h a0 13 17 fun r11 =>
  nN r11 fun a13 => aL E h 1 a13 6 fun y14 =>
  br ((lg_cmp y14 1) = 0) (gR h a0 13 49 fun r20 =>
  nN r20 fun a22 => sI E h 0 a22 xp1 1 fun h23 =>
  isO h23 a0 13 (m_X12_ask E a0 xp1 h23 0 0 (fun h26 =>
 Q 1 h26))) (isO h a0 13 (m_X12_end E a0 xp1 3 h 0 0 (fun h18 =>
 Q 1 h18)))) (br (xp2 = 6) (isO h a0 13 (m_X12_takeAnswer E a0 xp1 h 0 0 (fun h29 =>
 Q 1 h29))) (br (xp2 = 8) (isO h a0 13 (m_X12_takeWord E a0 xp1 h 0 0 (fun x31 h32 =>
 ((x31 = 0 ∨ x31 = 1) ∧ Q x31 h32)))) (m_X12_toTerminal_L111 E a0 xp1 h kc ks Q))))) (Q 0 h)
def m_X12_isSigned_L30 (E : Ev) (a0 : Nat) (xv2 : Int32) (h : Hp) (kc ks : Nat) (K8 : Nat → Int32 → Hp → Nat → Nat → Prop) (Q : Int32 → Hp → Prop) : Prop := K8 a0 (xv2 + 1) h kc ks
def m_X12_isSigned_L8 (n : Nat) (E : Ev) (a0 : Nat) (xv2 : Int32) (h : Hp) (kc ks : Nat) (Q : Int32 → Hp → Prop) : Prop := match n with
  | 0 => False
  | n + 1 => br (8 < xv2) (gR h a0 13 17 fun r7 =>
  nN r7 fun a9 => aL E h 1 a9 5 fun y10 =>
  gI h a0 13 36 fun x12 =>
  br (0 ≤ (lg_cmp y10 x12.toInt64)) (Q 0 h) (gR h a0 13 17 fun r15 =>
  nN r15 fun a17 => aL E h 1 a17 5 fun y18 =>
  gR h a0 13 17 fun r20 =>
  nN r20 fun a22 => aL E h 1 a22 11 fun y23 =>
  isO h a0 13 (m_X12_isGood E a0 1 y18 y23 h 0 0 (fun x25 h26 =>
 br (x25 = 0) (Q 0 h26) (Q 1 h26))))) (br (xv2 = 7) (m_X12_isSigned_L30 E a0 xv2 h kc ks (fun a0k xv2k hk kck ksk => m_X12_isSigned_L8 n E a0k xv2k hk kck ksk Q) Q) (gR h a0 13 17 fun r30 =>
  nN r30 fun a32 => aL E h 1 a32 xv2 fun y33 =>
  isO h a0 13 (m_X12_more E a0 y33 h 0 0 (fun h36 =>
 m_X12_isSigned_L30 E a0 xv2 h36 kc ks (fun a0k xv2k hk kck ksk => m_X12_isSigned_L8 n E a0k xv2k hk kck ksk Q) Q))))
def m_X12_isSigned (E : Ev) (a0 : Nat) (xp1 : Int32) (h : Hp) (kc ks : Nat) (Q : Int32 → Hp → Prop) : Prop := isO h a0 13 (m_X12_begin E a0 xp1.toInt64 h 0 0 (fun h3 =>
 ∃ n4, m_X12_isSigned_L8 n4 E a0 1 h3 kc ks Q))
def m_X12_isAnswer (E : Ev) (a0 : Nat) (xp1 : Int32) (h : Hp) (kc ks : Nat) (Q : Int32 → Hp → Prop) : Prop := isO h a0 13 (m_X12_begin E a0 6 h 0 0 (fun h3 =>
 isO h3 a0 13 (m_X12_more E a0 xp1.toInt64 h3 0 0 (fun h6 =>
 gR h6 a0 13 17 fun r8 =>
 nN r8 fun a10 => aL E h6 1 a10 3 fun y11 =>
 isO h6 a0 13 (m_X12_more E a0 y11 h6 0 0 (fun h14 =>
 gR h14 a0 13 17 fun r16 =>
 nN r16 fun a18 => aL E h14 1 a18 4 fun y19 =>
 isO h14 a0 13 (m_X12_more E a0 y19 h14 0 0 (fun h22 =>
 gR h22 a0 13 17 fun r24 =>
 nN r24 fun a26 => aL E h22 1 a26 5 fun y27 =>
 isO h22 a0 13 (m_X12_more E a0 y27 h22 0 0 (fun h30 =>
 gR h30 a0 13 17 fun r32 =>
 nN r32 fun a34 => aL E h30 1 a34 2 fun y35 =>
 isO h30 a0 13 (m_X12_more E a0 y35 h30 0 0 (fun h38 =>
 gR h38 a0 13 17 fun r40 =>
 nN r40 fun a42 => aL E h38 1 a42 6 fun y43 =>
 isO h38 a0 13 (m_X12_more E a0 y43 h38 0 0 (fun h46 =>
 gR h46 a0 13 17 fun r48 =>
 nN r48 fun a50 => aL E h46 1 a50 1 fun y51 =>
 gI h46 a0 13 21 fun x53 =>
 br (0 ≤ (lg_cmp y51 x53.toInt64)) (Q 0 h46) (gR h46 a0 13 17 fun r56 =>
 nN r56 fun a58 => aL E h46 1 a58 1 fun y59 =>
 gR h46 a0 13 17 fun r61 =>
 nN r61 fun a63 => aL E h46 1 a63 8 fun y64 =>
 isO h46 a0 13 (m_X12_isGood E a0 0 y59 y64 h46 0 0 (fun x66 h67 =>
 br (x66 = 0) (Q 0 h67) (Q 1 h67))))))))))))))))))
def m_X12_debit (E : Ev) (a0 : Nat) (xp1 : Int32) (h : Hp) (kc ks : Nat) (Q : Hp → Prop) : Prop := gR h a0 13 17 fun r2 =>
  nN r2 fun a4 => aL E h 1 a4 1 fun y5 =>
  gR h a0 13 25 fun r7 =>
  nN r7 fun a9 => aL E h 1 a9 y5.toInt32 fun y10 =>
  gR h a0 13 17 fun r12 =>
  nN r12 fun a14 => aL E h 1 a14 3 fun y15 =>
  sL E h 1 a9 y5.toInt32 (y10 - y15) fun h17 =>
  gI h17 a0 13 61 fun x19 =>
  gR h17 a0 13 62 fun r21 =>
  nN r21 fun a23 => sL E h17 1 a23 (7 * x19) y5.toInt32.toInt64 fun h24 =>
  gR h24 a0 13 62 fun r26 =>
  gR h24 a0 13 17 fun r28 =>
  nN r28 fun a30 => aL E h24 1 a30 2 fun y31 =>
  nN r26 fun a33 => sL E h24 1 a33 ((7 * x19) + 1) y31 fun h34 =>
  gR h34 a0 13 62 fun r36 =>
  gR h34 a0 13 17 fun r38 =>
  nN r38 fun a40 => aL E h34 1 a40 3 fun y41 =>
  nN r36 fun a43 => sL E h34 1 a43 ((7 * x19) + 2) y41 fun h44 =>
  gR h44 a0 13 62 fun r46 =>
  gR h44 a0 13 17 fun r48 =>
  nN r48 fun a50 => aL E h44 1 a50 4 fun y51 =>
  nN r46 fun a53 => sL E h44 1 a53 ((7 * x19) + 3) y51 fun h54 =>
  gR h54 a0 13 62 fun r56 =>
  gR h54 a0 13 17 fun r58 =>
  nN r58 fun a60 => aL E h54 1 a60 5 fun y61 =>
  nN r56 fun a63 => sL E h54 1 a63 ((7 * x19) + 4) y61 fun h64 =>
  gR h64 a0 13 62 fun r66 =>
  gR h64 a0 13 17 fun r68 =>
  nN r68 fun a70 => aL E h64 1 a70 6 fun y71 =>
  nN r66 fun a73 => sL E h64 1 a73 ((7 * x19) + 5) y71 fun h74 =>
  gR h74 a0 13 62 fun r76 =>
  nN r76 fun a78 => sL E h74 1 a78 ((7 * x19) + 6) xp1.toInt64 fun h79 =>
  gI h79 a0 13 61 fun x81 =>
  pV h79 a0 13 61 (.int (x81 + 1)) fun h83 =>
  Q h83
def m_X12_toHost_L93 (E : Ev) (a0 : Nat) (xv3 : Int32) (s0 : Int32) (h : Hp) (kc ks : Nat) (K36 : Nat → Int32 → Int32 → Hp → Nat → Nat → Prop) (Q : Int32 → Hp → Prop) : Prop := K36 a0 s0 (xv3 + 1) h kc ks
def m_X12_toHost_L88 (E : Ev) (a0 : Nat) (xv3 : Int32) (h : Hp) (kc ks : Nat) (K36 : Nat → Int32 → Int32 → Hp → Nat → Nat → Prop) (Q : Int32 → Hp → Prop) : Prop := m_X12_toHost_L93 E a0 xv3 1 h kc ks K36 Q
def m_X12_toHost_L92 (E : Ev) (a0 : Nat) (xv3 : Int32) (h : Hp) (kc ks : Nat) (K36 : Nat → Int32 → Int32 → Hp → Nat → Nat → Prop) (Q : Int32 → Hp → Prop) : Prop := m_X12_toHost_L93 E a0 xv3 0 h kc ks K36 Q
def m_X12_toHost_L36 (n : Nat) (E : Ev) (a0 : Nat) (xv2 : Int32) (xv3 : Int32) (h : Hp) (kc ks : Nat) (Q : Int32 → Hp → Prop) : Prop := match n with
  | 0 => False
  | n + 1 => gI h a0 13 61 fun x60 =>
  br (x60 ≤ xv3) (br (xv2 = 0) (((xv2 = 0 ∨ xv2 = 1) ∧ Q xv2 h)) (isO h a0 13 (m_X12_debit E a0 2 h 0 0 (fun h65 =>
 ((xv2 = 0 ∨ xv2 = 1) ∧ Q xv2 h65))))) (br (xv2 = 0) (m_X12_toHost_L92 E a0 xv3 h kc ks (fun a0k xv2k xv3k hk kck ksk => m_X12_toHost_L36 n E a0k xv2k xv3k hk kck ksk Q) Q) (gR h a0 13 62 fun r68 =>
  nN r68 fun a70 => aL E h 1 a70 (7 * xv3) fun y71 =>
  gR h a0 13 17 fun r73 =>
  nN r73 fun a75 => aL E h 1 a75 1 fun y76 =>
  br ((lg_cmp y71 y76) = 0) (gR h a0 13 62 fun r79 =>
  nN r79 fun a81 => aL E h 1 a81 ((7 * xv3) + 1) fun y82 =>
  gR h a0 13 17 fun r84 =>
  nN r84 fun a86 => aL E h 1 a86 2 fun y87 =>
  br ((lg_cmp y82 y87) = 0) (m_X12_toHost_L92 E a0 xv3 h kc ks (fun a0k xv2k xv3k hk kck ksk => m_X12_toHost_L36 n E a0k xv2k xv3k hk kck ksk Q) Q) (m_X12_toHost_L88 E a0 xv3 h kc ks (fun a0k xv2k xv3k hk kck ksk => m_X12_toHost_L36 n E a0k xv2k xv3k hk kck ksk Q) Q)) (m_X12_toHost_L88 E a0 xv3 h kc ks (fun a0k xv2k xv3k hk kck ksk => m_X12_toHost_L36 n E a0k xv2k xv3k hk kck ksk Q) Q)))
def m_X12_toHost_L218 (E : Ev) (a0 : Nat) (s0 : Int64) (h : Hp) (kc ks : Nat) (Q : Int32 → Hp → Prop) : Prop := gR h a0 13 18 fun r95 =>
  gR h a0 13 17 fun r97 =>
  nN r97 fun a99 => aL E h 1 a99 1 fun y100 =>
  nN r95 fun a102 => sL E h 1 a102 1 y100 fun h103 =>
  gR h103 a0 13 18 fun r105 =>
  gR h103 a0 13 17 fun r107 =>
  nN r107 fun a109 => aL E h103 1 a109 2 fun y110 =>
  nN r105 fun a112 => sL E h103 1 a112 2 y110 fun h113 =>
  isO h113 a0 13 (m_X12_begin E a0 8 h113 0 0 (fun h116 =>
 gR h116 a0 13 17 fun r118 =>
 nN r118 fun a120 => aL E h116 1 a120 1 fun y121 =>
 isO h116 a0 13 (m_X12_more E a0 y121 h116 0 0 (fun h124 =>
 gR h124 a0 13 17 fun r126 =>
 nN r126 fun a128 => aL E h124 1 a128 2 fun y129 =>
 isO h124 a0 13 (m_X12_more E a0 y129 h124 0 0 (fun h132 =>
 isO h132 a0 13 (m_X12_more E a0 s0 h132 0 0 (fun h135 =>
 gR h135 a0 13 18 fun r137 =>
 gR h135 a0 13 17 fun r139 =>
 nN r139 fun a141 => aL E h135 1 a141 1 fun y142 =>
 isO h135 a0 13 (m_X12_seal E a0 2 y142 h135 0 0 (fun x144 h145 =>
 nN r137 fun a147 => sL E h145 1 a147 8 x144.toInt64 fun h148 =>
 gR h148 a0 13 17 fun r150 =>
 nN r150 fun a152 => aL E h148 1 a152 3 fun y153 =>
 isO h148 a0 13 (m_X12_more E a0 y153 h148 0 0 (fun h156 =>
 gR h156 a0 13 18 fun r158 =>
 nN r158 fun a160 => sL E h156 1 a160 10 s0 fun h161 =>
 gR h161 a0 13 18 fun r163 =>
 gR h161 a0 13 17 fun r165 =>
 nN r165 fun a167 => aL E h161 1 a167 5 fun y168 =>
 isO h161 a0 13 (m_X12_seal E a0 1 y168 h161 0 0 (fun x170 h171 =>
 nN r163 fun a173 => sL E h171 1 a173 11 x170.toInt64 fun h174 =>
 gR h174 a0 13 17 fun r176 =>
 nN r176 fun a178 => aL E h174 1 a178 5 fun y179 =>
 isO h174 a0 13 (m_X12_send E a0 8 2 0 1 y179.toInt32 h174 0 0 (fun x181 h182 =>
 Q 1 h182))))))))))))))))
def m_X12_toHost_L209 (E : Ev) (a0 : Nat) (xv3 : Int32) (h : Hp) (kc ks : Nat) (Q : Int32 → Hp → Prop) : Prop := br (xv3 = 0) (m_X12_toHost_L218 E a0 0 h kc ks Q) (m_X12_toHost_L218 E a0 1 h kc ks Q)
def m_X12_toHost_L199 (E : Ev) (a0 : Nat) (s0 : Int32) (h : Hp) (kc ks : Nat) (Q : Int32 → Hp → Prop) : Prop := br (s0 = 0) (m_X12_toHost_L209 E a0 s0 h kc ks Q) (isO h a0 13 (m_X12_debit E a0 1 h 0 0 (fun h93 =>
 m_X12_toHost_L209 E a0 s0 h93 kc ks Q)))
def m_X12_toHost_L147 (E : Ev) (a0 : Nat) (s0 : Int32) (h : Hp) (kc ks : Nat) (Q : Int32 → Hp → Prop) : Prop := br (s0 = 0) (m_X12_toHost_L209 E a0 0 h kc ks Q) (gR h a0 13 17 fun r34 =>
  nN r34 fun a36 => aL E h 1 a36 1 fun y37 =>
  gR h a0 13 26 fun r39 =>
  gR h a0 13 17 fun r41 =>
  nN r41 fun a43 => aL E h 1 a43 2 fun y44 =>
  nN r39 fun a46 => sI E h 0 a46 y37.toInt32 y44.toInt32 fun h47 =>
  gR h47 a0 13 25 fun r49 =>
  nN r49 fun a51 => aL E h47 1 a51 y37.toInt32 fun y52 =>
  gR h47 a0 13 17 fun r54 =>
  nN r54 fun a56 => aL E h47 1 a56 3 fun y57 =>
  br ((lg_cmp y52 y57) < 0) (m_X12_toHost_L199 E a0 0 h47 kc ks Q) (m_X12_toHost_L199 E a0 1 h47 kc ks Q))
def m_X12_toHost_L146 (E : Ev) (a0 : Nat) (h : Hp) (kc ks : Nat) (Q : Int32 → Hp → Prop) : Prop := m_X12_toHost_L147 E a0 0 h kc ks Q
def m_X12_toHost_L12 (E : Ev) (a0 : Nat) (xv1 : Int32) (h : Hp) (kc ks : Nat) (Q : Int32 → Hp → Prop) : Prop := isO h a0 13 (m_X12_isSigned E a0 xv1 h 0 0 (fun x4 h5 =>
 br (x4 = 0) (Q 0 h5) (br (xv1 = 11) (isO h5 a0 13 (m_X12_isAnswer E a0 2 h5 0 0 (fun x29 h30 =>
 ∃ n31, m_X12_toHost_L36 n31 E a0 x29 0 h30 kc ks Q))) (isO h5 a0 13 (m_X12_isAnswer E a0 1 h5 0 0 (fun x9 h10 =>
 br (x9 = 0) (m_X12_toHost_L146 E a0 h10 kc ks Q) (gR h10 a0 13 17 fun r13 =>
 nN r13 fun a15 => aL E h10 1 a15 2 fun y16 =>
 gR h10 a0 13 26 fun r18 =>
 gR h10 a0 13 17 fun r20 =>
 nN r20 fun a22 => aL E h10 1 a22 1 fun y23 =>
 nN r18 fun a25 => aI E h10 0 a25 y23.toInt32 fun x26 =>
 br ((lg_cmp y16 x26.toInt64) ≤ 0) (m_X12_toHost_L146 E a0 h10 kc ks Q) (m_X12_toHost_L147 E a0 1 h10 kc ks Q))))))))
def m_X12_toHost (E : Ev) (a0 : Nat) (xp1 : Int32) (h : Hp) (kc ks : Nat) (Q : Int32 → Hp → Prop) : Prop := br (xp1 = 7) (m_X12_toHost_L12 E a0 xp1 h kc ks Q) (br (xp1 = 11) (m_X12_toHost_L12 E a0 xp1 h kc ks Q) (Q 0 h))
def m_X12_deliver_L154 (E : Ev) (s0 : Int32) (h : Hp) (kc ks : Nat) (Q : Int32 → Hp → Prop) : Prop := br (s0 = 0) (Q 0 h) (Q 1 h)
def m_X12_deliver_L149 (E : Ev)  (h : Hp) (kc ks : Nat) (Q : Int32 → Hp → Prop) : Prop := m_X12_deliver_L154 E 1 h kc ks Q
def m_X12_deliver_L153 (E : Ev)  (h : Hp) (kc ks : Nat) (Q : Int32 → Hp → Prop) : Prop := m_X12_deliver_L154 E 0 h kc ks Q
def m_X12_deliver_L57 (n : Nat) (E : Ev) (a0 : Nat) (xv1 : Int32) (xv2 : Int32) (xv3 : Int32) (xv4 : Int32) (h : Hp) (kc ks : Nat) (Q : Int32 → Hp → Prop) : Prop := match n with
  | 0 => False
  | n + 1 => br (64 ≤ xv4) (isO h a0 13 (m_X12_remove E a0 xv1 h 0 0 (fun h40 =>
 isO h40 a0 13 (m_X12_read E a0 h40 0 0 (fun x42 h43 =>
 br (x42 = 0) (m_X12_deliver_L153 E h43 kc ks Q) (br (xv2 = 0) (isO h43 a0 13 (m_X12_toCard E a0 xv3 x42 h43 0 0 (fun x56 h57 =>
 br (x56 = 0) (m_X12_deliver_L153 E h57 kc ks Q) (m_X12_deliver_L149 E h57 kc ks Q)))) (br (xv2 = 1) (isO h43 a0 13 (m_X12_toTerminal E a0 xv3 x42 h43 0 0 (fun x52 h53 =>
 br (x52 = 0) (m_X12_deliver_L153 E h53 kc ks Q) (m_X12_deliver_L149 E h53 kc ks Q)))) (isO h43 a0 13 (m_X12_toHost E a0 x42 h43 0 0 (fun x48 h49 =>
 br (x48 = 0) (m_X12_deliver_L153 E h49 kc ks Q) (m_X12_deliver_L149 E h49 kc ks Q))))))))))) (gR h a0 13 15 fun r60 =>
  gR h a0 13 12 fun r62 =>
  nN r62 fun a64 => aI E h 0 a64 ((64 * xv1) + xv4) fun x65 =>
  nN r60 fun a67 => sI E h 0 a67 xv4 x65 fun h68 =>
  m_X12_deliver_L57 n E a0 xv1 xv2 xv3 (xv4 + 1) h68 kc ks Q)
def m_X12_deliver (E : Ev) (a0 : Nat) (xp1 : Int32) (h : Hp) (kc ks : Nat) (Q : Int32 → Hp → Prop) : Prop := isO h a0 13 (m_X12_isMessage E a0 xp1 h 0 0 (fun x2 h3 =>
 br (x2 = 0) (Q (-1) h3) (gR h3 a0 13 9 fun r6 =>
 nN r6 fun a8 => aI E h3 0 a8 xp1 fun x9 =>
 gR h3 a0 13 10 fun r11 =>
 nN r11 fun a13 => aI E h3 0 a13 xp1 fun x14 =>
 gR h3 a0 13 7 fun r16 =>
 nN r16 fun a18 => aI E h3 0 a18 xp1 fun x19 =>
 pV h3 a0 13 13 (.int x19) fun h21 =>
 gR h21 a0 13 8 fun r23 =>
 nN r23 fun a25 => aI E h21 0 a25 xp1 fun x26 =>
 pV h21 a0 13 14 (.int x26) fun h28 =>
 gR h28 a0 13 11 fun r30 =>
 nN r30 fun a32 => aI E h28 0 a32 xp1 fun x33 =>
 pV h28 a0 13 16 (.int x33) fun h35 =>
 ∃ n36, m_X12_deliver_L57 n36 E a0 xp1 x9 x14 0 h35 kc ks Q)))
def m_X12_card (E : Ev) (a0 : Nat) (xp1 : Int32) (yp2 : Int64) (xp4 : Int32) (yp5 : Int64) (h : Hp) (kc ks : Nat) (Q : Int32 → Hp → Prop) : Prop := gI h a0 13 21 fun x2 =>
  br (x2 = 16) (Q (-1) h) (m_X12_isIn E xp1.toInt64 0 9999 h 0 0 (fun x5 h6 =>
 br (x5 = 0) (Q (-1) h6) (m_X12_isIn E yp2 0 1000000000 h6 0 0 (fun x9 h10 =>
 br (x9 = 0) (Q (-1) h10) (m_X12_isIn E xp4.toInt64 0 9 h10 0 0 (fun x13 h14 =>
 br (x13 = 0) (Q (-1) h14) (m_X12_isIn E yp5 0 1000000000000 h14 0 0 (fun x17 h18 =>
 br (x17 = 0) (Q (-1) h18) (gR h18 a0 13 22 fun r21 =>
 gI h18 a0 13 21 fun x23 =>
 nN r21 fun a25 => sI E h18 0 a25 x23 xp1 fun h26 =>
 gR h26 a0 13 23 fun r28 =>
 gI h26 a0 13 21 fun x30 =>
 nN r28 fun a32 => sL E h26 1 a32 x30 yp2 fun h33 =>
 gR h33 a0 13 24 fun r35 =>
 gI h33 a0 13 21 fun x37 =>
 nN r35 fun a39 => sI E h33 0 a39 x37 xp4 fun h40 =>
 gR h40 a0 13 25 fun r42 =>
 gI h40 a0 13 21 fun x44 =>
 nN r42 fun a46 => sL E h40 1 a46 x44 yp5 fun h47 =>
 gR h47 a0 13 28 fun r49 =>
 gI h47 a0 13 21 fun x51 =>
 nN r49 fun a53 => sI E h47 0 a53 x51 3 fun h54 =>
 gR h54 a0 13 35 fun r56 =>
 gI h54 a0 13 21 fun x58 =>
 nN r56 fun a60 => sI E h54 0 a60 x58 (-1) fun h61 =>
 gI h61 a0 13 21 fun x63 =>
 pV h61 a0 13 21 (.int (x63 + 1)) fun h65 =>
 gI h65 a0 13 21 fun x67 =>
 Q (x67 - 1) h65)))))))))
def m_X12_terminal (E : Ev) (a0 : Nat) (yp1 : Int64) (yp3 : Int64) (h : Hp) (kc ks : Nat) (Q : Int32 → Hp → Prop) : Prop := gI h a0 13 36 fun x2 =>
  br (x2 = 8) (Q (-1) h) (m_X12_isIn E yp1 0 1000000000 h 0 0 (fun x5 h6 =>
 br (x5 = 0) (Q (-1) h6) (m_X12_isIn E yp3 0 1000000000 h6 0 0 (fun x9 h10 =>
 br (x9 = 0) (Q (-1) h10) (gR h10 a0 13 37 fun r13 =>
 gI h10 a0 13 36 fun x15 =>
 nN r13 fun a17 => sL E h10 1 a17 x15 yp1 fun h18 =>
 gR h18 a0 13 38 fun r20 =>
 gI h18 a0 13 36 fun x22 =>
 nN r20 fun a24 => sL E h18 1 a24 x22 yp3 fun h25 =>
 gR h25 a0 13 39 fun r27 =>
 gI h25 a0 13 36 fun x29 =>
 gI h25 a0 13 36 fun x31 =>
 nN r27 fun a33 => sL E h25 1 a33 x29 (12345 + x31.toInt64) fun h34 =>
 gI h34 a0 13 36 fun x36 =>
 pV h34 a0 13 36 (.int (x36 + 1)) fun h38 =>
 gI h38 a0 13 36 fun x40 =>
 Q (x40 - 1) h38)))))
def m_X12_purchase (E : Ev) (a0 : Nat) (xp1 : Int32) (xp2 : Int32) (yp3 : Int64) (xp5 : Int32) (h : Hp) (kc ks : Nat) (Q : Int32 → Hp → Prop) : Prop := br (xp1 < 0) (Q (-1) h) (gI h a0 13 36 fun x3 =>
  br (x3 ≤ xp1) (Q (-1) h) (br (xp2 < 0) (Q (-1) h) (gI h a0 13 21 fun x7 =>
  br (x7 ≤ xp2) (Q (-1) h) (m_X12_isIn E yp3 1 1000000000 h 0 0 (fun x10 h11 =>
 br (x10 = 0) (Q (-1) h11) (m_X12_isIn E xp5.toInt64 0 9999 h11 0 0 (fun x14 h15 =>
 br (x14 = 0) (Q (-1) h15) (gR h15 a0 13 39 fun r18 =>
 gR h15 a0 13 39 fun r20 =>
 nN r20 fun a22 => aL E h15 1 a22 xp1 fun y23 =>
 ∀ y24 : Int64, y24 = ((y23 * 1103515245) + 12345) - ((y23 * 1103515245) + 12345) / 2147483648 * 2147483648 → nN r18 fun a27 => sL E h15 1 a27 xp1 y24 fun h28 =>
 gR h28 a0 13 40 fun r30 =>
 nN r30 fun a32 => sI E h28 0 a32 xp1 0 fun h33 =>
 gR h33 a0 13 45 fun r35 =>
 gR h33 a0 13 39 fun r37 =>
 nN r37 fun a39 => aL E h33 1 a39 xp1 fun y40 =>
 nN r35 fun a42 => sL E h33 1 a42 xp1 y40 fun h43 =>
 gR h43 a0 13 44 fun r45 =>
 nN r45 fun a47 => sL E h43 1 a47 xp1 yp3 fun h48 =>
 gR h48 a0 13 46 fun r50 =>
 nN r50 fun a52 => sI E h48 0 a52 xp1 xp5 fun h53 =>
 gR h53 a0 13 43 fun r55 =>
 nN r55 fun a57 => sI E h53 0 a57 xp1 xp2 fun h58 =>
 gR h58 a0 13 58 fun r60 =>
 gI h58 a0 13 57 fun x62 =>
 nN r60 fun a64 => sL E h58 1 a64 (3 * x62) xp1.toInt64 fun h65 =>
 gR h65 a0 13 58 fun r67 =>
 gI h65 a0 13 57 fun x69 =>
 nN r67 fun a71 => sL E h65 1 a71 ((3 * x69) + 1) yp3 fun h72 =>
 gR h72 a0 13 58 fun r74 =>
 gI h72 a0 13 57 fun x76 =>
 gR h72 a0 13 45 fun r78 =>
 nN r78 fun a80 => aL E h72 1 a80 xp1 fun y81 =>
 nN r74 fun a83 => sL E h72 1 a83 ((3 * x76) + 2) y81 fun h84 =>
 gI h84 a0 13 57 fun x86 =>
 pV h84 a0 13 57 (.int (x86 + 1)) fun h88 =>
 gR h88 a0 13 18 fun r90 =>
 gR h88 a0 13 45 fun r92 =>
 nN r92 fun a94 => aL E h88 1 a94 xp1 fun y95 =>
 nN r90 fun a97 => sL E h88 1 a97 4 y95 fun h98 =>
 isO h98 a0 13 (m_X12_toItsCard E a0 xp1 1 2 h98 0 0 (fun h101 =>
 gR h101 a0 13 45 fun r103 =>
 nN r103 fun a105 => aL E h101 1 a105 xp1 fun y106 =>
 Q y106.toInt32 h101))))))))))
def m_X12_alter (E : Ev) (a0 : Nat) (xp1 : Int32) (xp2 : Int32) (xp3 : Int32) (h : Hp) (kc ks : Nat) (Q : Int32 → Hp → Prop) : Prop := isO h a0 13 (m_X12_isMessage E a0 xp1 h 0 0 (fun x2 h3 =>
 br (x2 = 0) (Q 0 h3) (br (xp2 < 0) (Q 0 h3) (gR h3 a0 13 11 fun r7 =>
 nN r7 fun a9 => aI E h3 0 a9 xp1 fun x10 =>
 br (x10 ≤ xp2) (Q 0 h3) (m_X12_isIn E xp3.toInt64 0 255 h3 0 0 (fun x13 h14 =>
 br (x13 = 0) (Q 0 h14) (gR h14 a0 13 12 fun r17 =>
 nN r17 fun a19 => sI E h14 0 a19 ((64 * xp1) + xp2) xp3 fun h20 =>
 Q 1 h20)))))))
def m_X12_drop (E : Ev) (a0 : Nat) (xp1 : Int32) (h : Hp) (kc ks : Nat) (Q : Int32 → Hp → Prop) : Prop := isO h a0 13 (m_X12_isMessage E a0 xp1 h 0 0 (fun x2 h3 =>
 br (x2 = 0) (Q 0 h3) (isO h3 a0 13 (m_X12_remove E a0 xp1 h3 0 0 (fun h7 =>
 Q 1 h7)))))
def m_X12_again_L21 (n : Nat) (E : Ev) (a0 : Nat) (xv1 : Int32) (xv2 : Int32) (h : Hp) (kc ks : Nat) (Q : Int32 → Hp → Prop) : Prop := match n with
  | 0 => False
  | n + 1 => br (64 ≤ xv2) (gR h a0 13 7 fun r11 =>
  nN r11 fun a13 => aI E h 0 a13 xv1 fun x14 =>
  gR h a0 13 8 fun r16 =>
  nN r16 fun a18 => aI E h 0 a18 xv1 fun x19 =>
  gR h a0 13 9 fun r21 =>
  nN r21 fun a23 => aI E h 0 a23 xv1 fun x24 =>
  gR h a0 13 10 fun r26 =>
  nN r26 fun a28 => aI E h 0 a28 xv1 fun x29 =>
  gR h a0 13 11 fun r31 =>
  nN r31 fun a33 => aI E h 0 a33 xv1 fun x34 =>
  isO h a0 13 (m_X12_lie E a0 x14 x19 x24 x29 x34 h 0 0 (fun h37 =>
 Q 1 h37))) (gR h a0 13 12 fun r39 =>
  gI h a0 13 6 fun x41 =>
  gR h a0 13 12 fun r43 =>
  nN r43 fun a45 => aI E h 0 a45 ((64 * xv1) + xv2) fun x46 =>
  nN r39 fun a48 => sI E h 0 a48 ((64 * x41) + xv2) x46 fun h49 =>
  m_X12_again_L21 n E a0 xv1 (xv2 + 1) h49 kc ks Q)
def m_X12_again (E : Ev) (a0 : Nat) (xp1 : Int32) (h : Hp) (kc ks : Nat) (Q : Int32 → Hp → Prop) : Prop := isO h a0 13 (m_X12_isMessage E a0 xp1 h 0 0 (fun x2 h3 =>
 br (x2 = 0) (Q 0 h3) (gI h3 a0 13 6 fun x6 =>
 br (x6 = 60) (Q 0 h3) (∃ n8, m_X12_again_L21 n8 E a0 xp1 0 h3 kc ks Q))))
def m_X12_put (E : Ev) (a0 : Nat) (xp1 : Int32) (h : Hp) (kc ks : Nat) (Q : Int32 → Hp → Prop) : Prop := gI h a0 13 20 fun x2 =>
  br (x2 = 64) (Q (-1) h) (m_X12_isIn E xp1.toInt64 0 255 h 0 0 (fun x5 h6 =>
 br (x5 = 0) (Q (-1) h6) (gR h6 a0 13 19 fun r9 =>
 gI h6 a0 13 20 fun x11 =>
 nN r9 fun a13 => sI E h6 0 a13 x11 xp1 fun h14 =>
 gI h14 a0 13 20 fun x16 =>
 pV h14 a0 13 20 (.int (x16 + 1)) fun h18 =>
 gI h18 a0 13 20 fun x20 =>
 Q x20 h18)))
def m_X12_isThere_L44 (E : Ev)  (h : Hp) (kc ks : Nat) (Q : Int32 → Hp → Prop) : Prop := Q 1 h
def m_X12_isThere (E : Ev) (a0 : Nat) (xp1 : Int32) (xp2 : Int32) (h : Hp) (kc ks : Nat) (Q : Int32 → Hp → Prop) : Prop := br (xp2 < 0) (Q 0 h) (br (xp1 = 0) (gI h a0 13 21 fun x10 =>
  br (x10 ≤ xp2) (Q 0 h) (m_X12_isThere_L44 E  h kc ks Q)) (br (xp1 = 1) (gI h a0 13 36 fun x7 =>
  br (x7 ≤ xp2) (Q 0 h) (m_X12_isThere_L44 E  h kc ks Q)) (br (xp1 = 2) (br (xp2 = 0) (m_X12_isThere_L44 E  h kc ks Q) (Q 0 h)) (Q 0 h))))
def m_X12_inject_L40 (n : Nat) (E : Ev) (a0 : Nat) (xv1 : Int32) (xv2 : Int32) (xv3 : Int32) (xv4 : Int32) (xv5 : Int32) (h : Hp) (kc ks : Nat) (Q : Int32 → Hp → Prop) : Prop := match n with
  | 0 => False
  | n + 1 => gI h a0 13 20 fun x17 =>
  br (x17 ≤ xv5) (gI h a0 13 20 fun x20 =>
  isO h a0 13 (m_X12_lie E a0 xv1 xv2 xv3 xv4 x20 h 0 0 (fun h23 =>
 pV h23 a0 13 20 (.int 0) fun h25 =>
 Q 1 h25))) (gR h a0 13 12 fun r27 =>
  gI h a0 13 6 fun x29 =>
  gR h a0 13 19 fun r31 =>
  nN r31 fun a33 => aI E h 0 a33 xv5 fun x34 =>
  nN r27 fun a36 => sI E h 0 a36 ((64 * x29) + xv5) x34 fun h37 =>
  m_X12_inject_L40 n E a0 xv1 xv2 xv3 xv4 (xv5 + 1) h37 kc ks Q)
def m_X12_inject (E : Ev) (a0 : Nat) (xp1 : Int32) (xp2 : Int32) (xp3 : Int32) (xp4 : Int32) (h : Hp) (kc ks : Nat) (Q : Int32 → Hp → Prop) : Prop := isO h a0 13 (m_X12_isThere E a0 xp1 xp2 h 0 0 (fun x2 h3 =>
 br (x2 = 0) (Q 0 h3) (isO h3 a0 13 (m_X12_isThere E a0 xp3 xp4 h3 0 0 (fun x6 h7 =>
 br (x6 = 0) (Q 0 h7) (gI h7 a0 13 20 fun x10 =>
 br (x10 = 0) (Q 0 h7) (gI h7 a0 13 6 fun x13 =>
 br (x13 = 60) (Q 0 h7) (∃ n15, m_X12_inject_L40 n15 E a0 xp1 xp2 xp3 xp4 0 h7 kc ks Q))))))))
def m_X12_power (E : Ev) (a0 : Nat) (xp1 : Int32) (xp2 : Int32) (h : Hp) (kc ks : Nat) (Q : Int32 → Hp → Prop) : Prop := br (xp1 < 0) (Q 0 h) (gI h a0 13 21 fun x3 =>
  br (x3 ≤ xp1) (Q 0 h) (m_X12_isIn E xp2.toInt64 0 9 h 0 0 (fun x6 h7 =>
 br (x6 = 0) (Q 0 h7) (gR h7 a0 13 35 fun r10 =>
 nN r10 fun a12 => sI E h7 0 a12 xp1 xp2 fun h13 =>
 Q 1 h13))))
def m_X12_tick_L73 (E : Ev) (a0 : Nat) (xv2 : Int32) (xv3 : Int32) (h : Hp) (kc ks : Nat) (K29 : Nat → Int32 → Int32 → Hp → Nat → Nat → Prop) (Q : Int32 → Hp → Prop) : Prop := K29 a0 xv2 (xv3 + 1) h kc ks
def m_X12_tick_L29 (n : Nat) (E : Ev) (a0 : Nat) (xv2 : Int32) (xv3 : Int32) (h : Hp) (kc ks : Nat) (Q : Int32 → Hp → Prop) : Prop := match n with
  | 0 => False
  | n + 1 => gI h a0 13 36 fun x11 =>
  br (x11 ≤ xv3) (Q xv2 h) (gR h a0 13 41 fun r14 =>
  nN r14 fun a16 => aI E h 0 a16 xv3 fun x17 =>
  br (x17 = 0) (m_X12_tick_L73 E a0 xv2 xv3 h kc ks (fun a0k xv2k xv3k hk kck ksk => m_X12_tick_L29 n E a0k xv2k xv3k hk kck ksk Q) Q) (gL h a0 13 52 fun y20 =>
  gR h a0 13 42 fun r22 =>
  nN r22 fun a24 => aL E h 1 a24 xv3 fun y25 =>
  br ((lg_cmp (y20 - y25) 20) ≤ 0) (m_X12_tick_L73 E a0 xv2 xv3 h kc ks (fun a0k xv2k xv3k hk kck ksk => m_X12_tick_L29 n E a0k xv2k xv3k hk kck ksk Q) Q) (isO h a0 13 (m_X12_end E a0 xv3 4 h 0 0 (fun h29 =>
 m_X12_tick_L73 E a0 (xv2 + 1) xv3 h29 kc ks (fun a0k xv2k xv3k hk kck ksk => m_X12_tick_L29 n E a0k xv2k xv3k hk kck ksk Q) Q)))))
def m_X12_tick (E : Ev) (a0 : Nat) (xp1 : Int32) (h : Hp) (kc ks : Nat) (Q : Int32 → Hp → Prop) : Prop := m_X12_isIn E xp1.toInt64 1 100 h 0 0 (fun x2 h3 =>
 br (x2 = 0) (Q (-1) h3) (gL h3 a0 13 52 fun y6 =>
 pV h3 a0 13 52 (.long (y6 + xp1.toInt64)) fun h8 =>
 ∃ n9, m_X12_tick_L29 n9 E a0 0 0 h8 kc ks Q))
def m_X12_clear_L82 (E : Ev) (a0 : Nat) (xv1 : Int32) (xv2 : Int32) (xv3 : Int32) (xv4 : Int32) (s0 : Int32) (s1 : Option Nat) (h : Hp) (kc ks : Nat) (K18 : Nat → Int32 → Int32 → Int32 → Hp → Nat → Nat → Prop) (K55 : Nat → Int32 → Int32 → Int32 → Int32 → Hp → Nat → Nat → Prop) (Q : Int32 → Hp → Prop) : Prop := gR h a0 13 56 fun r39 =>
  nN r39 fun a41 => aL E h 1 a41 ((7 * xv3) + xv4) fun y42 =>
  nN s1 fun a44 => sL E h 1 a44 s0 y42 fun h45 =>
  K55 a0 xv1 xv2 xv3 (xv4 + 1) h45 kc ks
def m_X12_clear_L129 (E : Ev) (a0 : Nat) (xv1 : Int32) (xv2 : Int32) (xv3 : Int32) (h : Hp) (kc ks : Nat) (K18 : Nat → Int32 → Int32 → Int32 → Hp → Nat → Nat → Prop) (Q : Int32 → Hp → Prop) : Prop := K18 a0 xv1 xv2 (xv3 + 1) h kc ks
def m_X12_clear_L127 (E : Ev) (a0 : Nat) (xv1 : Int32) (xv3 : Int32) (s0 : Int32) (s1 : Int32) (h : Hp) (kc ks : Nat) (K18 : Nat → Int32 → Int32 → Int32 → Hp → Nat → Nat → Prop) (Q : Int32 → Hp → Prop) : Prop := m_X12_clear_L129 E a0 xv1 (s1 + s0) xv3 h kc ks K18 Q
def m_X12_clear_L55 (n : Nat) (E : Ev) (a0 : Nat) (xv1 : Int32) (xv2 : Int32) (xv3 : Int32) (xv4 : Int32) (h : Hp) (kc ks : Nat) (K18 : Nat → Int32 → Int32 → Int32 → Hp → Nat → Nat → Prop) (Q : Int32 → Hp → Prop) : Prop := match n with
  | 0 => False
  | n + 1 => br (7 ≤ xv4) (isO h a0 13 (m_X12_sign E a0 xv1 11 h 0 0 (fun h30 =>
 isO h30 a0 13 (m_X12_send E a0 11 1 xv1 2 0 h30 0 0 (fun x32 h33 =>
 br (x32 = 0) (m_X12_clear_L127 E a0 xv1 xv3 0 xv2 h33 kc ks K18 Q) (m_X12_clear_L127 E a0 xv1 xv3 1 xv2 h33 kc ks K18 Q)))))) (gR h a0 13 18 fun r36 =>
  br (6 ≤ xv4) (m_X12_clear_L82 E a0 xv1 xv2 xv3 xv4 8 r36 h kc ks K18 (fun a0k xv1k xv2k xv3k xv4k hk kck ksk => m_X12_clear_L55 n E a0k xv1k xv2k xv3k xv4k hk kck ksk K18 Q) Q) (m_X12_clear_L82 E a0 xv1 xv2 xv3 xv4 (xv4 + 1) r36 h kc ks K18 (fun a0k xv1k xv2k xv3k xv4k hk kck ksk => m_X12_clear_L55 n E a0k xv1k xv2k xv3k xv4k hk kck ksk K18 Q) Q))
def m_X12_clear_L18 (n : Nat) (E : Ev) (a0 : Nat) (xv1 : Int32) (xv2 : Int32) (xv3 : Int32) (h : Hp) (kc ks : Nat) (Q : Int32 → Hp → Prop) : Prop := match n with
  | 0 => False
  | n + 1 => gI h a0 13 53 fun x7 =>
  br (x7 ≤ xv3) (Q xv2 h) (gR h a0 13 54 fun r10 =>
  nN r10 fun a12 => aI E h 0 a12 xv3 fun x13 =>
  br (x13 = xv1) (gR h a0 13 55 fun r16 =>
  nN r16 fun a18 => aI E h 2 a18 xv3 fun x19 =>
  br (x19 = 0) (gR h a0 13 55 fun r22 =>
  nN r22 fun a24 => sZ E h 2 a24 xv3 1 fun h25 =>
  ∃ n26, m_X12_clear_L55 n26 E a0 xv1 xv2 xv3 0 h25 kc ks (fun a0k xv1k xv2k xv3k hk kck ksk => m_X12_clear_L18 n E a0k xv1k xv2k xv3k hk kck ksk Q) Q) (m_X12_clear_L129 E a0 xv1 xv2 xv3 h kc ks (fun a0k xv1k xv2k xv3k hk kck ksk => m_X12_clear_L18 n E a0k xv1k xv2k xv3k hk kck ksk Q) Q)) (m_X12_clear_L129 E a0 xv1 xv2 xv3 h kc ks (fun a0k xv1k xv2k xv3k hk kck ksk => m_X12_clear_L18 n E a0k xv1k xv2k xv3k hk kck ksk Q) Q))
def m_X12_clear (E : Ev) (a0 : Nat) (xp1 : Int32) (h : Hp) (kc ks : Nat) (Q : Int32 → Hp → Prop) : Prop := br (xp1 < 0) (Q (-1) h) (gI h a0 13 36 fun x3 =>
  br (xp1 < x3) (∃ n5, m_X12_clear_L18 n5 E a0 xp1 0 0 h kc ks Q) (Q (-1) h))
def m_X12_count (E : Ev) (a0 : Nat) (xp1 : Int32) (h : Hp) (kc ks : Nat) (Q : Int32 → Hp → Prop) : Prop := br (xp1 = 0) (gI h a0 13 21 fun x18 =>
  Q x18 h) (br (xp1 = 1) (gI h a0 13 36 fun x16 =>
  Q x16 h) (br (xp1 = 2) (gI h a0 13 6 fun x14 =>
  Q x14 h) (br (xp1 = 3) (gI h a0 13 61 fun x12 =>
  Q x12 h) (br (xp1 = 4) (gI h a0 13 0 fun x10 =>
  Q x10 h) (br (xp1 = 5) (gI h a0 13 57 fun x8 =>
  Q x8 h) (Q (-1) h))))))
def m_X12_outcome_L12 (E : Ev)  (h : Hp) (kc ks : Nat) (Q : Int32 → Hp → Prop) : Prop := Q (-1) h
def m_X12_outcome (E : Ev) (a0 : Nat) (xp1 : Int32) (h : Hp) (kc ks : Nat) (Q : Int32 → Hp → Prop) : Prop := br (xp1 < 0) (m_X12_outcome_L12 E  h kc ks Q) (gI h a0 13 36 fun x3 =>
  br (xp1 < x3) (gR h a0 13 40 fun r6 =>
  nN r6 fun a8 => aI E h 0 a8 xp1 fun x9 =>
  Q x9 h) (m_X12_outcome_L12 E  h kc ks Q))
def m_X12_told (E : Ev) (a0 : Nat) (xp1 : Int32) (xp2 : Int32) (h : Hp) (kc ks : Nat) (Q : Int32 → Hp → Prop) : Prop := br (xp1 < 0) (Q (-1) h) (gI h a0 13 21 fun x3 =>
  br (xp1 < x3) (br (xp2 = 0) (gR h a0 13 27 fun r25 =>
  nN r25 fun a27 => aI E h 0 a27 xp1 fun x28 =>
  Q x28 h) (br (xp2 = 1) (gR h a0 13 28 fun r20 =>
  nN r20 fun a22 => aI E h 0 a22 xp1 fun x23 =>
  Q x23 h) (br (xp2 = 2) (gR h a0 13 29 fun r15 =>
  nN r15 fun a17 => aI E h 0 a17 xp1 fun x18 =>
  Q x18 h) (br (xp2 = 3) (gR h a0 13 30 fun r10 =>
  nN r10 fun a12 => aI E h 0 a12 xp1 fun x13 =>
  Q x13 h) (Q (-1) h))))) (Q (-1) h))
def m_X12_account_L12 (E : Ev)  (h : Hp) (kc ks : Nat) (Q : Int64 → Hp → Prop) : Prop := Q 0 h
def m_X12_account (E : Ev) (a0 : Nat) (xp1 : Int32) (h : Hp) (kc ks : Nat) (Q : Int64 → Hp → Prop) : Prop := br (xp1 < 0) (m_X12_account_L12 E  h kc ks Q) (gI h a0 13 21 fun x3 =>
  br (xp1 < x3) (gR h a0 13 25 fun r6 =>
  nN r6 fun a8 => aL E h 1 a8 xp1 fun y9 =>
  Q y9 h) (m_X12_account_L12 E  h kc ks Q))
def m_X12_debit__L22 (E : Ev)  (h : Hp) (kc ks : Nat) (Q : Int64 → Hp → Prop) : Prop := Q (-1) h
def m_X12_debit_ (E : Ev) (a0 : Nat) (xp1 : Int32) (xp2 : Int32) (h : Hp) (kc ks : Nat) (Q : Int64 → Hp → Prop) : Prop := br (xp1 < 0) (m_X12_debit__L22 E  h kc ks Q) (gI h a0 13 61 fun x3 =>
  br (x3 ≤ xp1) (m_X12_debit__L22 E  h kc ks Q) (br (xp2 < 0) (m_X12_debit__L22 E  h kc ks Q) (br (xp2 ≤ 6) (gR h a0 13 62 fun r8 =>
  nN r8 fun a10 => aL E h 1 a10 ((7 * xp1) + xp2) fun y11 =>
  Q y11 h) (m_X12_debit__L22 E  h kc ks Q))))
def m_X12_message (E : Ev) (a0 : Nat) (xp1 : Int32) (xp2 : Int32) (h : Hp) (kc ks : Nat) (Q : Int32 → Hp → Prop) : Prop := isO h a0 13 (m_X12_isMessage E a0 xp1 h 0 0 (fun x2 h3 =>
 br (x2 = 0) (Q (-1) h3) (br (xp2 = 0) (gR h3 a0 13 7 fun r31 =>
 nN r31 fun a33 => aI E h3 0 a33 xp1 fun x34 =>
 Q x34 h3) (br (xp2 = 1) (gR h3 a0 13 8 fun r26 =>
 nN r26 fun a28 => aI E h3 0 a28 xp1 fun x29 =>
 Q x29 h3) (br (xp2 = 2) (gR h3 a0 13 9 fun r21 =>
 nN r21 fun a23 => aI E h3 0 a23 xp1 fun x24 =>
 Q x24 h3) (br (xp2 = 3) (gR h3 a0 13 10 fun r16 =>
 nN r16 fun a18 => aI E h3 0 a18 xp1 fun x19 =>
 Q x19 h3) (br (xp2 = 4) (gR h3 a0 13 11 fun r11 =>
 nN r11 fun a13 => aI E h3 0 a13 xp1 fun x14 =>
 Q x14 h3) (Q (-1) h3))))))))
def m_X12_at_L22 (E : Ev)  (h : Hp) (kc ks : Nat) (Q : Int32 → Hp → Prop) : Prop := Q (-1) h
def m_X12_at (E : Ev) (a0 : Nat) (xp1 : Int32) (xp2 : Int32) (h : Hp) (kc ks : Nat) (Q : Int32 → Hp → Prop) : Prop := isO h a0 13 (m_X12_isMessage E a0 xp1 h 0 0 (fun x2 h3 =>
 br (x2 = 0) (m_X12_at_L22 E h3 kc ks Q) (br (xp2 < 0) (m_X12_at_L22 E h3 kc ks Q) (gR h3 a0 13 11 fun r7 =>
 nN r7 fun a9 => aI E h3 0 a9 xp1 fun x10 =>
 br (xp2 < x10) (gR h3 a0 13 12 fun r13 =>
 nN r13 fun a15 => aI E h3 0 a15 ((64 * xp1) + xp2) fun x16 =>
 Q x16 h3) (m_X12_at_L22 E h3 kc ks Q)))))
def m_X12_matched_L110 (E : Ev) (a0 : Nat) (xv2 : Int32) (xv3 : Int32) (xv5 : Int32) (s0 : Int32) (s1 : Int32) (h : Hp) (kc ks : Nat) (K4 : Nat → Int32 → Int32 → Hp → Nat → Nat → Prop) (K27 : Nat → Int32 → Int32 → Int32 → Int32 → Hp → Nat → Nat → Prop) (Q : Int32 → Hp → Prop) : Prop := K27 a0 xv2 xv3 (s1 + s0) (xv5 + 1) h kc ks
def m_X12_matched_L109 (E : Ev) (a0 : Nat) (xv2 : Int32) (xv3 : Int32) (xv5 : Int32) (s0 : Int32) (h : Hp) (kc ks : Nat) (K4 : Nat → Int32 → Int32 → Hp → Nat → Nat → Prop) (K27 : Nat → Int32 → Int32 → Int32 → Int32 → Hp → Nat → Nat → Prop) (Q : Int32 → Hp → Prop) : Prop := m_X12_matched_L110 E a0 xv2 xv3 xv5 0 s0 h kc ks K4 K27 Q
def m_X12_matched_L183 (E : Ev) (a0 : Nat) (xv2 : Int32) (xv3 : Int32) (xv4 : Int32) (xv5 : Int32) (xv6 : Int32) (xv8 : Int32) (s0 : Int32) (h : Hp) (kc ks : Nat) (K4 : Nat → Int32 → Int32 → Hp → Nat → Nat → Prop) (K125 : Nat → Int32 → Int32 → Int32 → Int32 → Int32 → Hp → Nat → Nat → Prop) (K140 : Nat → Int32 → Int32 → Int32 → Int32 → Int32 → Int32 → Int32 → Hp → Nat → Nat → Prop) (Q : Int32 → Hp → Prop) : Prop := K140 a0 xv2 xv3 xv4 xv5 xv6 s0 (xv8 + 1) h kc ks
def m_X12_matched_L182 (E : Ev) (a0 : Nat) (xv2 : Int32) (xv3 : Int32) (xv4 : Int32) (xv5 : Int32) (xv6 : Int32) (xv8 : Int32) (h : Hp) (kc ks : Nat) (K4 : Nat → Int32 → Int32 → Hp → Nat → Nat → Prop) (K125 : Nat → Int32 → Int32 → Int32 → Int32 → Int32 → Hp → Nat → Nat → Prop) (K140 : Nat → Int32 → Int32 → Int32 → Int32 → Int32 → Int32 → Int32 → Hp → Nat → Nat → Prop) (Q : Int32 → Hp → Prop) : Prop := m_X12_matched_L183 E a0 xv2 xv3 xv4 xv5 xv6 xv8 0 h kc ks K4 K125 K140 Q
def m_X12_matched_L206 (E : Ev) (a0 : Nat) (xv2 : Int32) (xv3 : Int32) (xv4 : Int32) (xv6 : Int32) (s0 : Int32) (h : Hp) (kc ks : Nat) (K4 : Nat → Int32 → Int32 → Hp → Nat → Nat → Prop) (K125 : Nat → Int32 → Int32 → Int32 → Int32 → Int32 → Hp → Nat → Nat → Prop) (Q : Int32 → Hp → Prop) : Prop := K125 a0 xv2 xv3 xv4 s0 (xv6 + 1) h kc ks
def m_X12_matched_L201 (E : Ev) (a0 : Nat) (xv2 : Int32) (xv3 : Int32) (xv4 : Int32) (xv6 : Int32) (h : Hp) (kc ks : Nat) (K4 : Nat → Int32 → Int32 → Hp → Nat → Nat → Prop) (K125 : Nat → Int32 → Int32 → Int32 → Int32 → Int32 → Hp → Nat → Nat → Prop) (Q : Int32 → Hp → Prop) : Prop := m_X12_matched_L206 E a0 xv2 xv3 xv4 xv6 1 h kc ks K4 K125 Q
def m_X12_matched_L140 (n : Nat) (E : Ev) (a0 : Nat) (xv2 : Int32) (xv3 : Int32) (xv4 : Int32) (xv5 : Int32) (xv6 : Int32) (xv7 : Int32) (xv8 : Int32) (h : Hp) (kc ks : Nat) (K4 : Nat → Int32 → Int32 → Hp → Nat → Nat → Prop) (K125 : Nat → Int32 → Int32 → Int32 → Int32 → Int32 → Hp → Nat → Nat → Prop) (Q : Int32 → Hp → Prop) : Prop := match n with
  | 0 => False
  | n + 1 => br (7 ≤ xv8) (br (xv5 = 0) (br (xv7 = 0) (m_X12_matched_L206 E a0 xv2 xv3 xv4 xv6 0 h kc ks K4 K125 Q) (m_X12_matched_L201 E a0 xv2 xv3 xv4 xv6 h kc ks K4 K125 Q)) (m_X12_matched_L201 E a0 xv2 xv3 xv4 xv6 h kc ks K4 K125 Q)) (br (xv7 = 0) (m_X12_matched_L182 E a0 xv2 xv3 xv4 xv5 xv6 xv8 h kc ks K4 K125 (fun a0k xv2k xv3k xv4k xv5k xv6k xv7k xv8k hk kck ksk => m_X12_matched_L140 n E a0k xv2k xv3k xv4k xv5k xv6k xv7k xv8k hk kck ksk K4 K125 Q) Q) (gR h a0 13 60 fun r56 =>
  nN r56 fun a58 => aL E h 1 a58 ((7 * xv6) + xv8) fun y59 =>
  gR h a0 13 62 fun r61 =>
  nN r61 fun a63 => aL E h 1 a63 (xv3 + xv8) fun y64 =>
  br ((lg_cmp y59 y64) = 0) (m_X12_matched_L183 E a0 xv2 xv3 xv4 xv5 xv6 xv8 1 h kc ks K4 K125 (fun a0k xv2k xv3k xv4k xv5k xv6k xv7k xv8k hk kck ksk => m_X12_matched_L140 n E a0k xv2k xv3k xv4k xv5k xv6k xv7k xv8k hk kck ksk K4 K125 Q) Q) (m_X12_matched_L182 E a0 xv2 xv3 xv4 xv5 xv6 xv8 h kc ks K4 K125 (fun a0k xv2k xv3k xv4k xv5k xv6k xv7k xv8k hk kck ksk => m_X12_matched_L140 n E a0k xv2k xv3k xv4k xv5k xv6k xv7k xv8k hk kck ksk K4 K125 Q) Q)))
def m_X12_matched_L293 (E : Ev) (a0 : Nat) (xv2 : Int32) (xv3 : Int32) (xv6 : Int32) (s0 : Int32) (h : Hp) (kc ks : Nat) (K4 : Nat → Int32 → Int32 → Hp → Nat → Nat → Prop) (K234 : Nat → Int32 → Int32 → Int32 → Int32 → Hp → Nat → Nat → Prop) (Q : Int32 → Hp → Prop) : Prop := K234 a0 s0 xv2 xv3 (xv6 + 1) h kc ks
def m_X12_matched_L288 (E : Ev) (a0 : Nat) (xv2 : Int32) (xv3 : Int32) (xv6 : Int32) (h : Hp) (kc ks : Nat) (K4 : Nat → Int32 → Int32 → Hp → Nat → Nat → Prop) (K234 : Nat → Int32 → Int32 → Int32 → Int32 → Hp → Nat → Nat → Prop) (Q : Int32 → Hp → Prop) : Prop := m_X12_matched_L293 E a0 xv2 xv3 xv6 1 h kc ks K4 K234 Q
def m_X12_matched_L292 (E : Ev) (a0 : Nat) (xv2 : Int32) (xv3 : Int32) (xv6 : Int32) (h : Hp) (kc ks : Nat) (K4 : Nat → Int32 → Int32 → Hp → Nat → Nat → Prop) (K234 : Nat → Int32 → Int32 → Int32 → Int32 → Hp → Nat → Nat → Prop) (Q : Int32 → Hp → Prop) : Prop := m_X12_matched_L293 E a0 xv2 xv3 xv6 0 h kc ks K4 K234 Q
def m_X12_matched_L234 (n : Nat) (E : Ev) (a0 : Nat) (xv1 : Int32) (xv2 : Int32) (xv3 : Int32) (xv6 : Int32) (h : Hp) (kc ks : Nat) (K4 : Nat → Int32 → Int32 → Hp → Nat → Nat → Prop) (Q : Int32 → Hp → Prop) : Prop := match n with
  | 0 => False
  | n + 1 => br (xv2 ≤ xv6) (K4 a0 xv1 (xv2 + 1) h kc ks) (br (xv1 = 0) (m_X12_matched_L292 E a0 xv2 xv3 xv6 h kc ks K4 (fun a0k xv1k xv2k xv3k xv6k hk kck ksk => m_X12_matched_L234 n E a0k xv1k xv2k xv3k xv6k hk kck ksk K4 Q) Q) (gR h a0 13 62 fun r69 =>
  nN r69 fun a71 => aL E h 1 a71 (7 * xv6) fun y72 =>
  gR h a0 13 62 fun r74 =>
  nN r74 fun a76 => aL E h 1 a76 xv3 fun y77 =>
  br ((lg_cmp y72 y77) = 0) (gR h a0 13 62 fun r80 =>
  nN r80 fun a82 => aL E h 1 a82 ((7 * xv6) + 1) fun y83 =>
  gR h a0 13 62 fun r85 =>
  nN r85 fun a87 => aL E h 1 a87 (xv3 + 1) fun y88 =>
  br ((lg_cmp y83 y88) = 0) (m_X12_matched_L292 E a0 xv2 xv3 xv6 h kc ks K4 (fun a0k xv1k xv2k xv3k xv6k hk kck ksk => m_X12_matched_L234 n E a0k xv1k xv2k xv3k xv6k hk kck ksk K4 Q) Q) (m_X12_matched_L288 E a0 xv2 xv3 xv6 h kc ks K4 (fun a0k xv1k xv2k xv3k xv6k hk kck ksk => m_X12_matched_L234 n E a0k xv1k xv2k xv3k xv6k hk kck ksk K4 Q) Q)) (m_X12_matched_L288 E a0 xv2 xv3 xv6 h kc ks K4 (fun a0k xv1k xv2k xv3k xv6k hk kck ksk => m_X12_matched_L234 n E a0k xv1k xv2k xv3k xv6k hk kck ksk K4 Q) Q)))
def m_X12_matched_L230 (E : Ev) (a0 : Nat) (xv2 : Int32) (xv3 : Int32) (s0 : Int32) (h : Hp) (kc ks : Nat) (K4 : Nat → Int32 → Int32 → Hp → Nat → Nat → Prop) (Q : Int32 → Hp → Prop) : Prop := ∃ n50, m_X12_matched_L234 n50 E a0 s0 xv2 xv3 0 h kc ks K4 Q
def m_X12_matched_L229 (E : Ev) (a0 : Nat) (xv2 : Int32) (xv3 : Int32) (h : Hp) (kc ks : Nat) (K4 : Nat → Int32 → Int32 → Hp → Nat → Nat → Prop) (Q : Int32 → Hp → Prop) : Prop := m_X12_matched_L230 E a0 xv2 xv3 0 h kc ks K4 Q
def m_X12_matched_L125 (n : Nat) (E : Ev) (a0 : Nat) (xv2 : Int32) (xv3 : Int32) (xv4 : Int32) (xv5 : Int32) (xv6 : Int32) (h : Hp) (kc ks : Nat) (K4 : Nat → Int32 → Int32 → Hp → Nat → Nat → Prop) (Q : Int32 → Hp → Prop) : Prop := match n with
  | 0 => False
  | n + 1 => gI h a0 13 59 fun x45 =>
  br (x45 ≤ xv6) (br (xv4 = 1) (br (xv5 = 0) (m_X12_matched_L229 E a0 xv2 xv3 h kc ks K4 Q) (m_X12_matched_L230 E a0 xv2 xv3 1 h kc ks K4 Q)) (m_X12_matched_L229 E a0 xv2 xv3 h kc ks K4 Q)) (∃ n49, m_X12_matched_L140 n49 E a0 xv2 xv3 xv4 xv5 xv6 1 0 h kc ks K4 (fun a0k xv2k xv3k xv4k xv5k xv6k hk kck ksk => m_X12_matched_L125 n E a0k xv2k xv3k xv4k xv5k xv6k hk kck ksk K4 Q) Q)
def m_X12_matched_L27 (n : Nat) (E : Ev) (a0 : Nat) (xv2 : Int32) (xv3 : Int32) (xv4 : Int32) (xv5 : Int32) (h : Hp) (kc ks : Nat) (K4 : Nat → Int32 → Int32 → Hp → Nat → Nat → Prop) (Q : Int32 → Hp → Prop) : Prop := match n with
  | 0 => False
  | n + 1 => gI h a0 13 57 fun x8 =>
  br (x8 ≤ xv5) (∃ n10, m_X12_matched_L125 n10 E a0 xv2 xv3 xv4 0 0 h kc ks K4 Q) (gR h a0 13 58 fun r12 =>
  nN r12 fun a14 => aL E h 1 a14 (3 * xv5) fun y15 =>
  gR h a0 13 62 fun r17 =>
  nN r17 fun a19 => aL E h 1 a19 (xv3 + 4) fun y20 =>
  br ((lg_cmp y15 y20) = 0) (gR h a0 13 58 fun r23 =>
  nN r23 fun a25 => aL E h 1 a25 ((3 * xv5) + 1) fun y26 =>
  gR h a0 13 62 fun r28 =>
  nN r28 fun a30 => aL E h 1 a30 (xv3 + 2) fun y31 =>
  br ((lg_cmp y26 y31) = 0) (gR h a0 13 58 fun r34 =>
  nN r34 fun a36 => aL E h 1 a36 ((3 * xv5) + 2) fun y37 =>
  gR h a0 13 62 fun r39 =>
  nN r39 fun a41 => aL E h 1 a41 (xv3 + 3) fun y42 =>
  br ((lg_cmp y37 y42) = 0) (m_X12_matched_L110 E a0 xv2 xv3 xv5 1 xv4 h kc ks K4 (fun a0k xv2k xv3k xv4k xv5k hk kck ksk => m_X12_matched_L27 n E a0k xv2k xv3k xv4k xv5k hk kck ksk K4 Q) Q) (m_X12_matched_L109 E a0 xv2 xv3 xv5 xv4 h kc ks K4 (fun a0k xv2k xv3k xv4k xv5k hk kck ksk => m_X12_matched_L27 n E a0k xv2k xv3k xv4k xv5k hk kck ksk K4 Q) Q)) (m_X12_matched_L109 E a0 xv2 xv3 xv5 xv4 h kc ks K4 (fun a0k xv2k xv3k xv4k xv5k hk kck ksk => m_X12_matched_L27 n E a0k xv2k xv3k xv4k xv5k hk kck ksk K4 Q) Q)) (m_X12_matched_L109 E a0 xv2 xv3 xv5 xv4 h kc ks K4 (fun a0k xv2k xv3k xv4k xv5k hk kck ksk => m_X12_matched_L27 n E a0k xv2k xv3k xv4k xv5k hk kck ksk K4 Q) Q))
def m_X12_matched_L4 (n : Nat) (E : Ev) (a0 : Nat) (xv1 : Int32) (xv2 : Int32) (h : Hp) (kc ks : Nat) (Q : Int32 → Hp → Prop) : Prop := match n with
  | 0 => False
  | n + 1 => gI h a0 13 61 fun x3 =>
  br (x3 ≤ xv2) (((xv1 = 0 ∨ xv1 = 1) ∧ Q xv1 h)) (br (xv1 = 0) (((xv1 = 0 ∨ xv1 = 1) ∧ Q xv1 h)) (∃ n6, m_X12_matched_L27 n6 E a0 xv2 (7 * xv2) 0 0 h kc ks (fun a0k xv1k xv2k hk kck ksk => m_X12_matched_L4 n E a0k xv1k xv2k hk kck ksk Q) Q))
def m_X12_matched (E : Ev) (a0 : Nat) (h : Hp) (kc ks : Nat) (Q : Int32 → Hp → Prop) : Prop := ∃ n1, m_X12_matched_L4 n1 E a0 1 0 h kc ks Q
