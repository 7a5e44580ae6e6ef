set_option maxRecDepth 100000 in
set_option maxHeartbeats 4000000 in
theorem k_X12_read_L137 {p : Program} {l : Launch} {e : Env} {R : Room} {s : State} {m : MethodId} {args : Array Value} {below : List Frame} {meth : Method} {c : Code} {D : va_G} {E : Ev} {A : Nat → Prop} {KC KS : Nat} (C : XC p R s m args c D E A 8 RX12 cX12_read KC KS) (hr : meth.sig.returnType = (some .int)) (hlk : meth.locks = false) (hnm : meth.name = "read") (hR : R.frames = 1 ∧ R.locals = 21) {K24 : Nat → Int32 → Int32 → Int32 → Hp → Nat → Nat → Prop} {Q : Int32 → Hp → Prop} (hK24 : ∀ (a0 : Nat) (xv1 : Int32) (xv2 : Int32) (xv3 : Int32) (h : Hp) (kc ks : Nat), K24 a0 xv1 xv2 xv3 h kc ks → XW p l e R s m args below meth c (MQ below (va_Qi Q (XPost D A) A) args s KC KS A) D A KC KS 8 h kc ks [(0, .ref a0), (1, .int xv1), (2, .int xv2), (3, .int xv3)] 24 []) : ∀ (a0 : Nat) (xv1 : Int32) (xv2 : Int32) (xv3 : Int32) (h : Hp) (kc ks : Nat), m_X12_read_L137 E a0 xv1 xv2 xv3 h kc ks K24 Q → XW p l e R s m args below meth c (MQ below (va_Qi Q (XPost D A) A) args s KC KS A) D A KC KS 8 h kc ks [(0, .ref a0), (1, .int xv1), (2, .int xv2), (3, .int xv3)] 137 [] := by
  intro a0 xv1 xv2 xv3 h kc ks hm
  refine xr_iinc (j := 3) (v := xv3 + 1) (lv' := [(3, .int (xv3 + 1)), (0, .ref a0), (1, .int xv1), (2, .int xv2)]) C dX12_read_137 rfl rfl (by decide) rfl ?_
  refine xr_goto (tgt := 24) C dX12_read_140 (by decide) ?_
  refine xr_sub [1, 2, 3, 0] rfl ?_
  exact hK24 a0 xv1 xv2 (xv3 + 1) _ _ _ hm
set_option maxRecDepth 100000 in
set_option maxHeartbeats 4000000 in
theorem k_X12_read_L88 {p : Program} {l : Launch} {e : Env} {R : Room} {s : State} {m : MethodId} {args : Array Value} {below : List Frame} {meth : Method} {c : Code} {D : va_G} {E : Ev} {A : Nat → Prop} {KC KS : Nat} (C : XC p R s m args c D E A 8 RX12 cX12_read KC KS) (hr : meth.sig.returnType = (some .int)) (hlk : meth.locks = false) (hnm : meth.name = "read") (hR : R.frames = 1 ∧ R.locals = 21) {K24 : Nat → Int32 → Int32 → Int32 → Hp → Nat → Nat → Prop} {Q : Int32 → Hp → Prop} (hK24 : ∀ (a0 : Nat) (xv1 : Int32) (xv2 : Int32) (xv3 : Int32) (h : Hp) (kc ks : Nat), K24 a0 xv1 xv2 xv3 h kc ks → XW p l e R s m args below meth c (MQ below (va_Qi Q (XPost D A) A) args s KC KS A) D A KC KS 8 h kc ks [(0, .ref a0), (1, .int xv1), (2, .int xv2), (3, .int xv3)] 24 []) : ∀ (n : Nat) (a0 : Nat) (xv1 : Int32) (xv2 : Int32) (xv3 : Int32) (xv4 : Int32) (yv5 : Int64) (xv7 : Int32) (h : Hp) (kc ks : Nat), m_X12_read_L88 n E a0 xv1 xv2 xv3 xv4 yv5 xv7 h kc ks K24 Q → XW p l e R s m args below meth c (MQ below (va_Qi Q (XPost D A) A) args s KC KS A) D A KC KS 8 h kc ks [(0, .ref a0), (1, .int xv1), (2, .int xv2), (3, .int xv3), (4, .int xv4), (5, .long yv5), (7, .int xv7)] 88 [] := by
  intro n
  induction n with
  | zero => intro a0 xv1 xv2 xv3 xv4 yv5 xv7 h kc ks hm; exact False.elim hm
  | succ n ih =>
    intro a0 xv1 xv2 xv3 xv4 yv5 xv7 h kc ks hm
    refine xr_iload C dX12_read_88 6 rfl ?_
    refine xr_iload C dX12_read_90 4 rfl ?_
    refine xr_icmp_ge (tgt := 122) C dX12_read_92 (by decide) (fun q36 => ?_) (fun q36 => ?_)
    · replace hm := hm.1 q36
      refine xr_aload_n (r := (some a0)) C dX12_read_122 0 rfl ?_
      obtain ⟨fs37, r38, e37, f37, hm⟩ := hm
      refine xr_get (ci := 13) C 17 e37 f37 rfl inX12 (by decide) wd_667 dX12_read_123 ?_
      refine xr_iload_n C dX12_read_126 3 rfl ?_
      refine xr_lload C dX12_read_127 5 rfl ?_
      obtain ⟨a40, rfl, hm⟩ := hm
      obtain ⟨N39, f39, e39, b39, h41, v39, hm⟩ := hm
      refine xr_last C 1 rfl e39 b39 v39 dX12_read_129 ?_
      refine xr_iload_n C dX12_read_130 2 rfl ?_
      refine xr_iconst (v := 2) C dX12_read_131 rfl ?_
      refine xr_iload C dX12_read_132 4 rfl ?_
      refine xr_iadd C dX12_read_134 ?_
      refine xr_iadd C dX12_read_135 ?_
      refine xr_istore_n (lv' := [(2, .int (xv2 + (2 + xv4))), (0, .ref a0), (1, .int xv1), (3, .int xv3), (4, .int xv4), (5, .long yv5), (7, .int xv7)]) C dX12_read_136 (by decide) rfl ?_
      refine xr_sub [1, 2, 0, 3] rfl ?_
      exact k_X12_read_L137 C hr hlk hnm hR hK24 a0 xv1 (xv2 + (2 + xv4)) xv3 _ _ _ hm
    · replace hm := hm.2 q36
      refine xr_ldc2 (v := 256) C dX12_read_95 wd_725 ?_
      refine xr_lload C dX12_read_98 5 rfl ?_
      refine xr_lmul C dX12_read_100 ?_
      refine xr_aload_n (r := (some a0)) C dX12_read_101 0 rfl ?_
      obtain ⟨fs42, r43, e42, f42, hm⟩ := hm
      refine xr_get (ci := 13) C 15 e42 f42 rfl inX12 (by decide) wd_666 dX12_read_102 ?_
      refine xr_iload_n C dX12_read_105 2 rfl ?_
      refine xr_iconst (v := 2) C dX12_read_106 rfl ?_
      refine xr_iadd C dX12_read_107 ?_
      refine xr_iload C dX12_read_108 6 rfl ?_
      refine xr_iadd C dX12_read_110 ?_
      obtain ⟨a45, rfl, hm⟩ := hm
      obtain ⟨N44, f44, x46, e44, b44, v44, hm⟩ := hm
      refine xr_iald C 0 rfl e44 b44 v44 dX12_read_111 ?_
      refine xr_i2l (v := x46.toInt64) C dX12_read_112 rfl ?_
      refine xr_ladd C dX12_read_113 ?_
      refine xr_lstore (lv' := [(5, .long ((256 * yv5) + x46.toInt64)), (0, .ref a0), (1, .int xv1), (2, .int xv2), (3, .int xv3), (4, .int xv4), (7, .int xv7)]) C dX12_read_114 (by decide) rfl ?_
      refine xr_iinc (j := 6) (v := xv7 + 1) (lv' := [(7, .int (xv7 + 1)), (5, .long ((256 * yv5) + x46.toInt64)), (0, .ref a0), (1, .int xv1), (2, .int xv2), (3, .int xv3), (4, .int xv4)]) C dX12_read_116 rfl rfl (by decide) rfl ?_
      refine xr_goto (tgt := 88) C dX12_read_119 (by decide) ?_
      refine xr_sub [2, 3, 4, 5, 6, 1, 0] rfl ?_
      exact ih a0 xv1 xv2 xv3 xv4 ((256 * yv5) + x46.toInt64) (xv7 + 1) _ _ _ hm
set_option maxRecDepth 100000 in
set_option maxHeartbeats 4000000 in
theorem k_X12_read_L24 {p : Program} {l : Launch} {e : Env} {R : Room} {s : State} {m : MethodId} {args : Array Value} {below : List Frame} {meth : Method} {c : Code} {D : va_G} {E : Ev} {A : Nat → Prop} {KC KS : Nat} (C : XC p R s m args c D E A 8 RX12 cX12_read KC KS) (hr : meth.sig.returnType = (some .int)) (hlk : meth.locks = false) (hnm : meth.name = "read") (hR : R.frames = 1 ∧ R.locals = 21) {Q : Int32 → Hp → Prop} : ∀ (n : Nat) (a0 : Nat) (xv1 : Int32) (xv2 : Int32) (xv3 : Int32) (h : Hp) (kc ks : Nat), m_X12_read_L24 n E a0 xv1 xv2 xv3 h kc ks Q → XW p l e R s m args below meth c (MQ below (va_Qi Q (XPost D A) A) args s KC KS A) D A KC KS 8 h kc ks [(0, .ref a0), (1, .int xv1), (2, .int xv2), (3, .int xv3)] 24 [] := by
  intro n
  induction n with
  | zero => intro a0 xv1 xv2 xv3 h kc ks hm; exact False.elim hm
  | succ n ih =>
    intro a0 xv1 xv2 xv3 h kc ks hm
    refine xr_iload_n C dX12_read_24 3 rfl ?_
    refine xr_bipush (v := 11) C dX12_read_25 rfl ?_
    refine xr_icmp_gt (tgt := 143) C dX12_read_27 (by decide) (fun q9 => ?_) (fun q9 => ?_)
    · replace hm := hm.1 q9
      refine xr_iload_n C dX12_read_143 2 rfl ?_
      refine xr_aload_n (r := (some a0)) C dX12_read_144 0 rfl ?_
      obtain ⟨fs10, x11, e10, f10, hm⟩ := hm
      refine xr_get (ci := 13) C 16 e10 f10 rfl inX12 (by decide) wd_724 dX12_read_145 ?_
      refine xr_icmp_ne (tgt := 155) C dX12_read_148 (by decide) (fun q12 => ?_) (fun q12 => ?_)
      · replace hm := hm.2 q12
        refine xr_iconst (v := 0) C dX12_read_155 rfl ?_
        exact xr_ireturn C hr hlk hm dX12_read_156
      · replace hm := hm.1 q12
        refine xr_iload_n C dX12_read_151 1 rfl ?_
        refine xr_goto (tgt := 156) C dX12_read_152 (by decide) ?_
        exact xr_ireturn C hr hlk hm dX12_read_156
    · replace hm := hm.2 q9
      refine xr_iload_n C dX12_read_30 1 rfl ?_
      refine xr_iload_n C dX12_read_31 3 rfl ?_
      refine xr_cSi (n := 2) (As := [.int xv1, .int xv3]) (st := []) C (c_X12_has xv1 xv3 h 0 0 hm) wd_721 wd_723 wd_712 wd_722 (by decide +kernel) rfl (by rw [hR.1, hR.2]; decide) (Nat.zero_add _).symm (Nat.zero_add _).symm rfl (Nat.le_of_ble_eq_true rfl) dX12_read_32 (fun x14 h15 hn => ?_)
      clear hm
      have hm := hn
      clear hn
      refine xr_if_eq (tgt := 137) C dX12_read_35 (by decide) (fun q16 => ?_) (fun q16 => ?_)
      · replace hm := hm.1 q16
        exact k_X12_read_L137 C hr hlk hnm hR ih a0 xv1 xv2 xv3 _ _ _ hm
      · replace hm := hm.2 q16
        refine xr_iload_n C dX12_read_38 3 rfl ?_
        refine xr_cSi (n := 1) (As := [.int xv3]) (st := []) C (c_X12_lengthOf xv3 h15 0 0 hm) wd_718 wd_720 wd_712 wd_719 (by decide +kernel) rfl (by rw [hR.1, hR.2]; decide) (Nat.zero_add _).symm (Nat.zero_add _).symm rfl (Nat.le_of_ble_eq_true rfl) dX12_read_39 (fun x18 h19 hn => ?_)
        clear hm
        have hm := hn
        clear hn
        refine xr_istore (lv' := [(4, .int x18), (0, .ref a0), (1, .int xv1), (2, .int xv2), (3, .int xv3)]) C dX12_read_42 (by decide) rfl ?_
        refine xr_iload_n C dX12_read_44 3 rfl ?_
        refine xr_iconst (v := 2) C dX12_read_45 rfl ?_
        refine xr_iadd C dX12_read_46 ?_
        refine xr_iload C dX12_read_47 0 rfl ?_
        refine xr_iadd C dX12_read_49 ?_
        refine xr_aload_n (r := (some a0)) C dX12_read_50 1 rfl ?_
        obtain ⟨fs20, x21, e20, f20, hm⟩ := hm
        refine xr_get (ci := 13) C 16 e20 f20 rfl inX12 (by decide) wd_724 dX12_read_51 ?_
        refine xr_icmp_gt (tgt := 80) C dX12_read_54 (by decide) (fun q22 => ?_) (fun q22 => ?_)
        · replace hm := hm.1 q22
          refine xr_iconst (v := 0) C dX12_read_80 rfl ?_
          exact xr_ireturn C hr hlk hm dX12_read_81
        · replace hm := hm.2 q22
          refine xr_aload_n (r := (some a0)) C dX12_read_57 1 rfl ?_
          obtain ⟨fs23, r24, e23, f23, hm⟩ := hm
          refine xr_get (ci := 13) C 15 e23 f23 rfl inX12 (by decide) wd_666 dX12_read_58 ?_
          refine xr_iload_n C dX12_read_61 3 rfl ?_
          obtain ⟨a26, rfl, hm⟩ := hm
          obtain ⟨N25, f25, x27, e25, b25, v25, hm⟩ := hm
          refine xr_iald C 0 rfl e25 b25 v25 dX12_read_62 ?_
          refine xr_iload_n C dX12_read_63 4 rfl ?_
          refine xr_icmp_ne (tgt := 80) C dX12_read_64 (by decide) (fun q28 => ?_) (fun q28 => ?_)
          · replace hm := hm.2 q28
            refine xr_iconst (v := 0) C dX12_read_80 rfl ?_
            exact xr_ireturn C hr hlk hm dX12_read_81
          · replace hm := hm.1 q28
            refine xr_aload_n (r := (some a0)) C dX12_read_67 1 rfl ?_
            obtain ⟨fs29, r30, e29, f29, hm⟩ := hm
            refine xr_get (ci := 13) C 15 e29 f29 rfl inX12 (by decide) wd_666 dX12_read_68 ?_
            refine xr_iload_n C dX12_read_71 3 rfl ?_
            refine xr_iconst (v := 1) C dX12_read_72 rfl ?_
            refine xr_iadd C dX12_read_73 ?_
            obtain ⟨a32, rfl, hm⟩ := hm
            obtain ⟨N31, f31, x33, e31, b31, v31, hm⟩ := hm
            refine xr_iald C 0 rfl e31 b31 v31 dX12_read_74 ?_
            refine xr_iload C dX12_read_75 0 rfl ?_
            refine xr_icmp_eq (tgt := 82) C dX12_read_77 (by decide) (fun q34 => ?_) (fun q34 => ?_)
            · replace hm := hm.1 q34
              refine xr_lconst (v := 0) C dX12_read_82 rfl ?_
              refine xr_lstore (lv' := [(5, .long 0), (4, .int x18), (0, .ref a0), (1, .int xv1), (2, .int xv2), (3, .int xv3)]) C dX12_read_83 (by decide) rfl ?_
              refine xr_iconst (v := 0) C dX12_read_85 rfl ?_
              refine xr_istore (lv' := [(7, .int 0), (5, .long 0), (4, .int x18), (0, .ref a0), (1, .int xv1), (2, .int xv2), (3, .int xv3)]) C dX12_read_86 (by decide) rfl ?_
              obtain ⟨n35, hm⟩ := hm
              refine xr_sub [3, 4, 5, 6, 2, 1, 0] rfl ?_
              exact k_X12_read_L88 C hr hlk hnm hR ih n35 a0 xv1 xv2 xv3 x18 0 0 _ _ _ hm
            · replace hm := hm.2 q34
              refine xr_iconst (v := 0) C dX12_read_80 rfl ?_
              exact xr_ireturn C hr hlk hm dX12_read_81
set_option maxRecDepth 100000 in
set_option maxHeartbeats 4000000 in
theorem c_X12_read {l : Launch} {D : va_G} {E : Ev} (a0 : Nat) (h : Hp) (kc ks : Nat) {Q : Int32 → Hp → Prop} (hm : m_X12_read E a0 h kc ks Q) : XMet l yX12_read cX12_read 8 (some .int) 1 21 kc ks D E h [.ref a0] (fun A => va_Qi Q (XPost D A) A) := by
  refine xm_of (lv0 := [(0, .ref a0)]) (by decide) (Nat.le_of_ble_eq_true rfl) rfl RX12 rfl (fun p e s m args below meth c A R hRm C hr hlk hnm => ?_)
  have hR : R.frames = 1 ∧ R.locals = 21 := by rw [hRm]; exact ⟨rfl, rfl⟩
  refine xr_aload_n (r := (some a0)) C dX12_read_0 0 rfl ?_
  obtain ⟨fs1, r2, e1, f1, hm⟩ := hm
  refine xr_get (ci := 13) C 15 e1 f1 rfl inX12 (by decide) wd_666 dX12_read_1 ?_
  refine xr_iconst (v := 0) C dX12_read_4 rfl ?_
  obtain ⟨a4, rfl, hm⟩ := hm
  obtain ⟨N3, f3, x5, e3, b3, v3, hm⟩ := hm
  refine xr_iald C 0 rfl e3 b3 v3 dX12_read_5 ?_
  refine xr_istore_n (lv' := [(1, .int x5), (0, .ref a0)]) C dX12_read_6 (by decide) rfl ?_
  refine xr_iconst (v := 1) C dX12_read_7 rfl ?_
  refine xr_istore_n (lv' := [(2, .int 1), (1, .int x5), (0, .ref a0)]) C dX12_read_8 (by decide) rfl ?_
  refine xr_iload_n C dX12_read_9 1 rfl ?_
  refine xr_iconst (v := 1) C dX12_read_10 rfl ?_
  refine xr_icmp_lt (tgt := 20) C dX12_read_11 (by decide) (fun q6 => ?_) (fun q6 => ?_)
  · replace hm := hm.1 q6
    refine xr_iconst (v := 0) C dX12_read_20 rfl ?_
    exact xr_ireturn C hr hlk hm dX12_read_21
  · replace hm := hm.2 q6
    refine xr_iload_n C dX12_read_14 1 rfl ?_
    refine xr_bipush (v := 11) C dX12_read_15 rfl ?_
    refine xr_icmp_le (tgt := 22) C dX12_read_17 (by decide) (fun q7 => ?_) (fun q7 => ?_)
    · replace hm := hm.1 q7
      refine xr_iconst (v := 1) C dX12_read_22 rfl ?_
      refine xr_istore_n (lv' := [(3, .int 1), (2, .int 1), (1, .int x5), (0, .ref a0)]) C dX12_read_23 (by decide) rfl ?_
      obtain ⟨n8, hm⟩ := hm
      refine xr_sub [3, 2, 1, 0] rfl ?_
      exact k_X12_read_L24 C hr hlk hnm hR n8 a0 x5 1 1 _ _ _ hm
    · replace hm := hm.2 q7
      refine xr_iconst (v := 0) C dX12_read_20 rfl ?_
      exact xr_ireturn C hr hlk hm dX12_read_21
set_option maxRecDepth 100000 in
set_option maxHeartbeats 4000000 in
theorem k_X12_writes_L84 {p : Program} {l : Launch} {e : Env} {R : Room} {s : State} {m : MethodId} {args : Array Value} {below : List Frame} {meth : Method} {c : Code} {D : va_G} {E : Ev} {A : Nat → Prop} {KC KS : Nat} (C : XC p R s m args c D E A 2 RX12 cX12_writes KC KS) (hr : meth.sig.returnType = (some .boolean)) (hlk : meth.locks = false) (hnm : meth.name = "writes") (hR : R.frames = 0 ∧ R.locals = 0) {Q : Int32 → Hp → Prop} : ∀ (s0 : Int32) (s1 : Int32) (s2 : Option Nat) (h : Hp) (kc ks : Nat), m_X12_writes_L84 E s0 s1 s2 h kc ks Q → XW p l e R s m args below meth c (MQ below (va_Qi Q (XPost D A) A) args s KC KS A) D A KC KS 2 h kc ks [] 84 [.int s0, .int s1, va_rf s2] := by
  intro s0 s1 s2 h kc ks hm
  obtain ⟨a56, rfl, hm⟩ := hm
  obtain ⟨N55, f55, e55, b55, h57, v55, hm⟩ := hm
  refine xr_iast C 0 rfl e55 b55 v55 dX12_writes_84 ?_
  refine xr_iconst (v := 1) C dX12_writes_85 rfl ?_
  exact xr_zreturn C hr hlk (Or.inr rfl) hm dX12_writes_86
set_option maxRecDepth 100000 in
set_option maxHeartbeats 4000000 in
theorem c_X12_writes {l : Launch} {D : va_G} {E : Ev} (a0 : Nat) (xp1 : Int32) (h : Hp) (kc ks : Nat) {Q : Int32 → Hp → Prop} (hm : m_X12_writes E a0 xp1 h kc ks Q) : XMet l yX12_writes cX12_writes 2 (some .boolean) 0 0 kc ks D E h [.ref a0, .int xp1] (fun A => va_Qi Q (XPost D A) A) := by
  refine xm_of (lv0 := [(0, .ref a0), (1, .int xp1)]) (by decide) (Nat.le_of_ble_eq_true rfl) rfl RX12 rfl (fun p e s m args below meth c A R hRm C hr hlk hnm => ?_)
  have hR : R.frames = 0 ∧ R.locals = 0 := by rw [hRm]; exact ⟨rfl, rfl⟩
  refine xr_aload_n (r := (some a0)) C dX12_writes_0 0 rfl ?_
  obtain ⟨fs1, r2, e1, f1, hm⟩ := hm
  refine xr_get (ci := 13) C 35 e1 f1 rfl inX12 (by decide) wd_683 dX12_writes_1 ?_
  refine xr_iload_n C dX12_writes_4 1 rfl ?_
  obtain ⟨a4, rfl, hm⟩ := hm
  obtain ⟨N3, f3, x5, e3, b3, v3, hm⟩ := hm
  refine xr_iald C 0 rfl e3 b3 v3 dX12_writes_5 ?_
  refine xr_if_ne (tgt := 53) C dX12_writes_6 (by decide) (fun q6 => ?_) (fun q6 => ?_)
  · replace hm := hm.2 q6
    refine xr_aload_n (r := (some a0)) C dX12_writes_53 0 rfl ?_
    obtain ⟨fs7, r8, e7, f7, hm⟩ := hm
    refine xr_get (ci := 13) C 35 e7 f7 rfl inX12 (by decide) wd_683 dX12_writes_54 ?_
    refine xr_iload_n C dX12_writes_57 1 rfl ?_
    refine xr_aload_n (r := (some a0)) C dX12_writes_58 0 rfl ?_
    obtain ⟨fs9, r10, e9, f9, hm⟩ := hm
    refine xr_get (ci := 13) C 35 e9 f9 rfl inX12 (by decide) wd_683 dX12_writes_59 ?_
    refine xr_iload_n C dX12_writes_62 1 rfl ?_
    obtain ⟨a12, rfl, hm⟩ := hm
    obtain ⟨N11, f11, x13, e11, b11, v11, hm⟩ := hm
    refine xr_iald C 0 rfl e11 b11 v11 dX12_writes_63 ?_
    refine xr_if_le (tgt := 78) C dX12_writes_64 (by decide) (fun q14 => ?_) (fun q14 => ?_)
    · replace hm := hm.1 q14
      refine xr_aload_n (r := (some a0)) C dX12_writes_78 0 rfl ?_
      obtain ⟨fs15, r16, e15, f15, hm⟩ := hm
      refine xr_get (ci := 13) C 35 e15 f15 rfl inX12 (by decide) wd_683 dX12_writes_79 ?_
      refine xr_iload_n C dX12_writes_82 1 rfl ?_
      obtain ⟨a18, rfl, hm⟩ := hm
      obtain ⟨N17, f17, x19, e17, b17, v17, hm⟩ := hm
      refine xr_iald C 0 rfl e17 b17 v17 dX12_writes_83 ?_
      refine xr_sub [] rfl ?_
      exact k_X12_writes_L84 C hr hlk hnm hR x19 xp1 r8 _ _ _ hm
    · replace hm := hm.2 q14
      refine xr_aload_n (r := (some a0)) C dX12_writes_67 0 rfl ?_
      obtain ⟨fs20, r21, e20, f20, hm⟩ := hm
      refine xr_get (ci := 13) C 35 e20 f20 rfl inX12 (by decide) wd_683 dX12_writes_68 ?_
      refine xr_iload_n C dX12_writes_71 1 rfl ?_
      obtain ⟨a23, rfl, hm⟩ := hm
      obtain ⟨N22, f22, x24, e22, b22, v22, hm⟩ := hm
      refine xr_iald C 0 rfl e22 b22 v22 dX12_writes_72 ?_
      refine xr_iconst (v := 1) C dX12_writes_73 rfl ?_
      refine xr_isub C dX12_writes_74 ?_
      refine xr_goto (tgt := 84) C dX12_writes_75 (by decide) ?_
      refine xr_sub [] rfl ?_
      exact k_X12_writes_L84 C hr hlk hnm hR (x24 - 1) xp1 r8 _ _ _ hm
  · replace hm := hm.1 q6
    refine xr_aload_n (r := (some a0)) C dX12_writes_9 0 rfl ?_
    obtain ⟨fs25, r26, e25, f25, hm⟩ := hm
    refine xr_get (ci := 13) C 35 e25 f25 rfl inX12 (by decide) wd_683 dX12_writes_10 ?_
    refine xr_iload_n C dX12_writes_13 1 rfl ?_
    refine xr_iconst (v := (-1)) C dX12_writes_14 rfl ?_
    obtain ⟨a28, rfl, hm⟩ := hm
    obtain ⟨N27, f27, e27, b27, h29, v27, hm⟩ := hm
    refine xr_iast C 0 rfl e27 b27 v27 dX12_writes_15 ?_
    refine xr_aload_n (r := (some a0)) C dX12_writes_16 0 rfl ?_
    obtain ⟨fs30, r31, e30, f30, hm⟩ := hm
    refine xr_get (ci := 13) C 30 e30 f30 rfl inX12 (by decide) wd_678 dX12_writes_17 ?_
    refine xr_iload_n C dX12_writes_20 1 rfl ?_
    refine xr_iconst (v := 0) C dX12_writes_21 rfl ?_
    obtain ⟨a33, rfl, hm⟩ := hm
    obtain ⟨N32, f32, e32, b32, h34, v32, hm⟩ := hm
    refine xr_iast C 0 rfl e32 b32 v32 dX12_writes_22 ?_
    refine xr_aload_n (r := (some a0)) C dX12_writes_23 0 rfl ?_
    obtain ⟨fs35, r36, e35, f35, hm⟩ := hm
    refine xr_get (ci := 13) C 31 e35 f35 rfl inX12 (by decide) wd_679 dX12_writes_24 ?_
    refine xr_iload_n C dX12_writes_27 1 rfl ?_
    refine xr_iconst (v := 0) C dX12_writes_28 rfl ?_
    obtain ⟨a38, rfl, hm⟩ := hm
    obtain ⟨N37, f37, e37, b37, h39, v37, hm⟩ := hm
    refine xr_iast C 0 rfl e37 b37 v37 dX12_writes_29 ?_
    refine xr_aload_n (r := (some a0)) C dX12_writes_30 0 rfl ?_
    obtain ⟨fs40, r41, e40, f40, hm⟩ := hm
    refine xr_get (ci := 13) C 32 e40 f40 rfl inX12 (by decide) wd_680 dX12_writes_31 ?_
    refine xr_iload_n C dX12_writes_34 1 rfl ?_
    refine xr_lconst (v := 0) C dX12_writes_35 rfl ?_
    obtain ⟨a43, rfl, hm⟩ := hm
    obtain ⟨N42, f42, e42, b42, h44, v42, hm⟩ := hm
    refine xr_last C 1 rfl e42 b42 v42 dX12_writes_36 ?_
    refine xr_aload_n (r := (some a0)) C dX12_writes_37 0 rfl ?_
    obtain ⟨fs45, r46, e45, f45, hm⟩ := hm
    refine xr_get (ci := 13) C 33 e45 f45 rfl inX12 (by decide) wd_681 dX12_writes_38 ?_
    refine xr_iload_n C dX12_writes_41 1 rfl ?_
    refine xr_lconst (v := 0) C dX12_writes_42 rfl ?_
    obtain ⟨a48, rfl, hm⟩ := hm
    obtain ⟨N47, f47, e47, b47, h49, v47, hm⟩ := hm
    refine xr_last C 1 rfl e47 b47 v47 dX12_writes_43 ?_
    refine xr_aload_n (r := (some a0)) C dX12_writes_44 0 rfl ?_
    obtain ⟨fs50, r51, e50, f50, hm⟩ := hm
    refine xr_get (ci := 13) C 34 e50 f50 rfl inX12 (by decide) wd_682 dX12_writes_45 ?_
    refine xr_iload_n C dX12_writes_48 1 rfl ?_
    refine xr_lconst (v := 0) C dX12_writes_49 rfl ?_
    obtain ⟨a53, rfl, hm⟩ := hm
    obtain ⟨N52, f52, e52, b52, h54, v52, hm⟩ := hm
    refine xr_last C 1 rfl e52 b52 v52 dX12_writes_50 ?_
    refine xr_iconst (v := 0) C dX12_writes_51 rfl ?_
    exact xr_zreturn C hr hlk (Or.inl rfl) hm dX12_writes_52
set_option maxRecDepth 100000 in
set_option maxHeartbeats 4000000 in
theorem c_X12_reply {l : Launch} {D : va_G} {E : Ev} (a0 : Nat) (xp1 : Int32) (xp2 : Int32) (h : Hp) (kc ks : Nat) {Q : Hp → Prop} (hm : m_X12_reply E a0 xp1 xp2 h kc ks Q) : XMet l yX12_reply cX12_reply 3 none 2 55 kc ks D E h [.ref a0, .int xp1, .int xp2] (fun A => va_Qv Q (XPost D A) A) := by
  refine xm_of (lv0 := [(0, .ref a0), (1, .int xp1), (2, .int xp2)]) (by decide) (Nat.le_of_ble_eq_true rfl) rfl RX12 rfl (fun p e s m args below meth c A R hRm C hr hlk hnm => ?_)
  have hR : R.frames = 2 ∧ R.locals = 55 := by rw [hRm]; exact ⟨rfl, rfl⟩
  refine xr_aload_n (r := (some a0)) C dX12_reply_0 0 rfl ?_
  refine xr_iload_n C dX12_reply_1 1 rfl ?_
  refine xr_iconst (v := 0) C dX12_reply_2 rfl ?_
  refine xr_iload_n C dX12_reply_3 2 rfl ?_
  refine xr_aload_n (r := (some a0)) C dX12_reply_4 0 rfl ?_
  obtain ⟨fs1, x2, e1, f1, hm⟩ := hm
  refine xr_get (ci := 13) C 13 e1 f1 rfl inX12 (by decide) wd_726 dX12_reply_5 ?_
  refine xr_aload_n (r := (some a0)) C dX12_reply_8 0 rfl ?_
  obtain ⟨fs3, x4, e3, f3, hm⟩ := hm
  refine xr_get (ci := 13) C 14 e3 f3 rfl inX12 (by decide) wd_727 dX12_reply_9 ?_
  obtain ⟨⟨fs5, e5⟩, hm⟩ := hm
  refine xr_cVi (n := 5) (As := [.int xp1, .int 0, .int xp2, .int x2, .int x4]) (st := []) C (c_X12_send a0 xp1 0 xp2 x2 x4 h 0 0 hm) e5 rfl wd_728 wd_730 wd_731 wd_712 wd_729 (by decide +kernel) rfl (by rw [hR.1, hR.2]; decide) (Nat.zero_add _).symm (Nat.zero_add _).symm rfl (Nat.le_of_ble_eq_true rfl) dX12_reply_12 (fun x6 h7 hn => ?_)
  clear hm
  have hm := hn
  clear hn
  refine xr_pop C dX12_reply_15 rfl ?_
  exact xr_vreturn C hr hlk hm dX12_reply_16
set_option maxRecDepth 100000 in
set_option maxHeartbeats 4000000 in
theorem k_X12_typePin_L126 {p : Program} {l : Launch} {e : Env} {R : Room} {s : State} {m : MethodId} {args : Array Value} {below : List Frame} {meth : Method} {c : Code} {D : va_G} {E : Ev} {A : Nat → Prop} {KC KS : Nat} (C : XC p R s m args c D E A 3 RX12 cX12_typePin KC KS) (hr : meth.sig.returnType = none) (hlk : meth.locks = false) (hnm : meth.name = "typePin") (hR : R.frames = 3 ∧ R.locals = 77) {Q : Hp → Prop} : ∀ (a0 : Nat) (xv1 : Int32) (s0 : Int64) (s1 : Int32) (s2 : Option Nat) (h : Hp) (kc ks : Nat), m_X12_typePin_L126 E a0 xv1 s0 s1 s2 h kc ks Q → XW p l e R s m args below meth c (MQ below (va_Qv Q (XPost D A) A) args s KC KS A) D A KC KS 3 h kc ks [(0, .ref a0), (1, .int xv1)] 126 [.long s0, .int s1, va_rf s2] := by
  intro a0 xv1 s0 s1 s2 h kc ks hm
  obtain ⟨a62, rfl, hm⟩ := hm
  obtain ⟨N61, f61, e61, b61, h63, v61, hm⟩ := hm
  refine xr_last C 1 rfl e61 b61 v61 dX12_typePin_126 ?_
  refine xr_aload_n (r := (some a0)) C dX12_typePin_127 0 rfl ?_
  refine xr_iconst (v := 4) C dX12_typePin_128 rfl ?_
  refine xr_iload_n C dX12_typePin_129 1 rfl ?_
  obtain ⟨⟨fs64, e64⟩, hm⟩ := hm
  refine xr_cVv (n := 2) (As := [.int 4, .int xv1]) (st := []) C (c_X12_reply a0 4 xv1 h63 0 0 hm) e64 rfl wd_737 wd_739 wd_740 wd_712 wd_738 (by decide +kernel) rfl (by rw [hR.1, hR.2]; decide) (Nat.zero_add _).symm (Nat.zero_add _).symm rfl (Nat.le_of_ble_eq_true rfl) dX12_typePin_130 (fun h66 hn => ?_)
  clear hm
  have hm := hn
  clear hn
  exact xr_vreturn C hr hlk hm dX12_typePin_133
set_option maxRecDepth 100000 in
set_option maxHeartbeats 4000000 in
theorem k_X12_typePin_L110 {p : Program} {l : Launch} {e : Env} {R : Room} {s : State} {m : MethodId} {args : Array Value} {below : List Frame} {meth : Method} {c : Code} {D : va_G} {E : Ev} {A : Nat → Prop} {KC KS : Nat} (C : XC p R s m args c D E A 3 RX12 cX12_typePin KC KS) (hr : meth.sig.returnType = none) (hlk : meth.locks = false) (hnm : meth.name = "typePin") (hR : R.frames = 3 ∧ R.locals = 77) {Q : Hp → Prop} : ∀ (a0 : Nat) (xv1 : Int32) (xv2 : Int32) (s0 : Int32) (s1 : Int32) (s2 : Option Nat) (h : Hp) (kc ks : Nat), m_X12_typePin_L110 E a0 xv1 xv2 s0 s1 s2 h kc ks Q → XW p l e R s m args below meth c (MQ below (va_Qv Q (XPost D A) A) args s KC KS A) D A KC KS 3 h kc ks [(0, .ref a0), (1, .int xv1), (2, .int xv2)] 110 [.int s0, .int s1, va_rf s2] := by
  intro a0 xv1 xv2 s0 s1 s2 h kc ks hm
  obtain ⟨a56, rfl, hm⟩ := hm
  obtain ⟨N55, f55, e55, b55, h57, v55, hm⟩ := hm
  refine xr_iast C 0 rfl e55 b55 v55 dX12_typePin_110 ?_
  refine xr_aload_n (r := (some a0)) C dX12_typePin_111 0 rfl ?_
  obtain ⟨fs58, r59, e58, f58, hm⟩ := hm
  refine xr_get (ci := 13) C 18 e58 f58 rfl inX12 (by decide) wd_668 dX12_typePin_112 ?_
  refine xr_bipush (v := 6) C dX12_typePin_115 rfl ?_
  refine xr_iload_n C dX12_typePin_117 2 rfl ?_
  refine xr_if_eq (tgt := 125) C dX12_typePin_118 (by decide) (fun q60 => ?_) (fun q60 => ?_)
  · replace hm := hm.1 q60
    refine xr_lconst (v := 0) C dX12_typePin_125 rfl ?_
    refine xr_sub [0, 1] rfl ?_
    exact k_X12_typePin_L126 C hr hlk hnm hR a0 xv1 0 6 r59 _ _ _ hm
  · replace hm := hm.2 q60
    refine xr_lconst (v := 1) C dX12_typePin_121 rfl ?_
    refine xr_goto (tgt := 126) C dX12_typePin_122 (by decide) ?_
    refine xr_sub [0, 1] rfl ?_
    exact k_X12_typePin_L126 C hr hlk hnm hR a0 xv1 1 6 r59 _ _ _ hm
set_option maxRecDepth 100000 in
set_option maxHeartbeats 4000000 in
theorem k_X12_typePin_L96 {p : Program} {l : Launch} {e : Env} {R : Room} {s : State} {m : MethodId} {args : Array Value} {below : List Frame} {meth : Method} {c : Code} {D : va_G} {E : Ev} {A : Nat → Prop} {KC KS : Nat} (C : XC p R s m args c D E A 3 RX12 cX12_typePin KC KS) (hr : meth.sig.returnType = none) (hlk : meth.locks = false) (hnm : meth.name = "typePin") (hR : R.frames = 3 ∧ R.locals = 77) {Q : Hp → Prop} : ∀ (a0 : Nat) (xv1 : Int32) (xv2 : Int32) (h : Hp) (kc ks : Nat), m_X12_typePin_L96 E a0 xv1 xv2 h kc ks Q → XW p l e R s m args below meth c (MQ below (va_Qv Q (XPost D A) A) args s KC KS A) D A KC KS 3 h kc ks [(0, .ref a0), (1, .int xv1), (2, .int xv2)] 96 [] := by
  intro a0 xv1 xv2 h kc ks hm
  refine xr_aload_n (r := (some a0)) C dX12_typePin_96 0 rfl ?_
  obtain ⟨fs52, r53, e52, f52, hm⟩ := hm
  refine xr_get (ci := 13) C 31 e52 f52 rfl inX12 (by decide) wd_679 dX12_typePin_97 ?_
  refine xr_iload_n C dX12_typePin_100 1 rfl ?_
  refine xr_iload_n C dX12_typePin_101 2 rfl ?_
  refine xr_if_eq (tgt := 109) C dX12_typePin_102 (by decide) (fun q54 => ?_) (fun q54 => ?_)
  · replace hm := hm.1 q54
    refine xr_iconst (v := 2) C dX12_typePin_109 rfl ?_
    exact k_X12_typePin_L110 C hr hlk hnm hR a0 xv1 xv2 2 xv1 r53 _ _ _ hm
  · replace hm := hm.2 q54
    refine xr_iconst (v := 1) C dX12_typePin_105 rfl ?_
    refine xr_goto (tgt := 110) C dX12_typePin_106 (by decide) ?_
    exact k_X12_typePin_L110 C hr hlk hnm hR a0 xv1 xv2 1 xv1 r53 _ _ _ hm
set_option maxRecDepth 100000 in
set_option maxHeartbeats 4000000 in
theorem k_X12_typePin_L75 {p : Program} {l : Launch} {e : Env} {R : Room} {s : State} {m : MethodId} {args : Array Value} {below : List Frame} {meth : Method} {c : Code} {D : va_G} {E : Ev} {A : Nat → Prop} {KC KS : Nat} (C : XC p R s m args c D E A 3 RX12 cX12_typePin KC KS) (hr : meth.sig.returnType = none) (hlk : meth.locks = false) (hnm : meth.name = "typePin") (hR : R.frames = 3 ∧ R.locals = 77) {Q : Hp → Prop} : ∀ (a0 : Nat) (xv1 : Int32) (s0 : Int32) (h : Hp) (kc ks : Nat), m_X12_typePin_L75 E a0 xv1 s0 h kc ks Q → XW p l e R s m args below meth c (MQ below (va_Qv Q (XPost D A) A) args s KC KS A) D A KC KS 3 h kc ks [(0, .ref a0), (1, .int xv1)] 75 [.int s0] := by
  intro a0 xv1 s0 h kc ks hm
  refine xr_istore_n (lv' := [(2, .int s0), (0, .ref a0), (1, .int xv1)]) C dX12_typePin_75 (by decide) rfl ?_
  refine xr_iload_n C dX12_typePin_76 0 rfl ?_
  refine xr_if_eq (tgt := 96) C dX12_typePin_77 (by decide) (fun q42 => ?_) (fun q42 => ?_)
  · replace hm := hm.1 q42
    refine xr_sub [1, 2, 0] rfl ?_
    exact k_X12_typePin_L96 C hr hlk hnm hR a0 xv1 s0 _ _ _ hm
  · replace hm := hm.2 q42
    refine xr_aload_n (r := (some a0)) C dX12_typePin_80 1 rfl ?_
    refine xr_iload_n C dX12_typePin_81 2 rfl ?_
    obtain ⟨⟨fs43, e43⟩, hm⟩ := hm
    refine xr_cVi (n := 1) (As := [.int xv1]) (st := []) C (c_X12_writes a0 xv1 h 0 0 hm) e43 rfl wd_732 wd_734 wd_735 wd_712 wd_733 (by decide +kernel) rfl (by rw [hR.1, hR.2]; decide) (Nat.zero_add _).symm (Nat.zero_add _).symm rfl (Nat.le_of_ble_eq_true rfl) dX12_typePin_82 (fun x44 h45 hn => ?_)
    clear hm
    have hm := hn
    clear hn
    refine xr_if_ne (tgt := 89) C dX12_typePin_85 (by decide) (fun q46 => ?_) (fun q46 => ?_)
    · replace hm := hm.2 q46
      refine xr_aload_n (r := (some a0)) C dX12_typePin_89 1 rfl ?_
      obtain ⟨fs47, r48, e47, f47, hm⟩ := hm
      refine xr_get (ci := 13) C 28 e47 f47 rfl inX12 (by decide) wd_676 dX12_typePin_90 ?_
      refine xr_iload_n C dX12_typePin_93 2 rfl ?_
      refine xr_iconst (v := 3) C dX12_typePin_94 rfl ?_
      obtain ⟨a50, rfl, hm⟩ := hm
      obtain ⟨N49, f49, e49, b49, h51, v49, hm⟩ := hm
      refine xr_iast C 0 rfl e49 b49 v49 dX12_typePin_95 ?_
      refine xr_sub [1, 2, 0] rfl ?_
      exact k_X12_typePin_L96 C hr hlk hnm hR a0 xv1 s0 _ _ _ hm
    · replace hm := hm.1 q46
      exact xr_vreturn C hr hlk hm dX12_typePin_88
set_option maxRecDepth 100000 in
set_option maxHeartbeats 4000000 in
theorem c_X12_typePin {l : Launch} {D : va_G} {E : Ev} (a0 : Nat) (xp1 : Int32) (h : Hp) (kc ks : Nat) {Q : Hp → Prop} (hm : m_X12_typePin E a0 xp1 h kc ks Q) : XMet l yX12_typePin cX12_typePin 3 none 3 77 kc ks D E h [.ref a0, .int xp1] (fun A => va_Qv Q (XPost D A) A) := by
  refine xm_of (lv0 := [(0, .ref a0), (1, .int xp1)]) (by decide) (Nat.le_of_ble_eq_true rfl) rfl RX12 rfl (fun p e s m args below meth c A R hRm C hr hlk hnm => ?_)
  have hR : R.frames = 3 ∧ R.locals = 77 := by rw [hRm]; exact ⟨rfl, rfl⟩
  refine xr_aload_n (r := (some a0)) C dX12_typePin_0 0 rfl ?_
  obtain ⟨fs1, r2, e1, f1, hm⟩ := hm
  refine xr_get (ci := 13) C 28 e1 f1 rfl inX12 (by decide) wd_676 dX12_typePin_1 ?_
  refine xr_iload_n C dX12_typePin_4 1 rfl ?_
  obtain ⟨a4, rfl, hm⟩ := hm
  obtain ⟨N3, f3, x5, e3, b3, v3, hm⟩ := hm
  refine xr_iald C 0 rfl e3 b3 v3 dX12_typePin_5 ?_
  refine xr_if_ne (tgt := 33) C dX12_typePin_6 (by decide) (fun q6 => ?_) (fun q6 => ?_)
  · replace hm := hm.2 q6
    refine xr_aload_n (r := (some a0)) C dX12_typePin_33 0 rfl ?_
    refine xr_iload_n C dX12_typePin_34 1 rfl ?_
    obtain ⟨⟨fs7, e7⟩, hm⟩ := hm
    refine xr_cVi (n := 1) (As := [.int xp1]) (st := []) C (c_X12_writes a0 xp1 h 0 0 hm) e7 rfl wd_732 wd_734 wd_735 wd_712 wd_733 (by decide +kernel) rfl (by rw [hR.1, hR.2]; decide) (Nat.zero_add _).symm (Nat.zero_add _).symm rfl (Nat.le_of_ble_eq_true rfl) dX12_typePin_35 (fun x8 h9 hn => ?_)
    clear hm
    have hm := hn
    clear hn
    refine xr_if_ne (tgt := 42) C dX12_typePin_38 (by decide) (fun q10 => ?_) (fun q10 => ?_)
    · replace hm := hm.2 q10
      refine xr_aload_n (r := (some a0)) C dX12_typePin_42 0 rfl ?_
      obtain ⟨fs11, r12, e11, f11, hm⟩ := hm
      refine xr_get (ci := 13) C 28 e11 f11 rfl inX12 (by decide) wd_676 dX12_typePin_43 ?_
      refine xr_iload_n C dX12_typePin_46 1 rfl ?_
      refine xr_dup2_11 C dX12_typePin_47 rfl (xv_cat _) ?_
      obtain ⟨a14, rfl, hm⟩ := hm
      obtain ⟨N13, f13, x15, e13, b13, v13, hm⟩ := hm
      refine xr_iald C 0 rfl e13 b13 v13 dX12_typePin_48 ?_
      refine xr_iconst (v := 1) C dX12_typePin_49 rfl ?_
      refine xr_isub C dX12_typePin_50 ?_
      obtain ⟨N16, f16, e16, b16, h17, v16, hm⟩ := hm
      refine xr_iast C 0 rfl e16 b16 v16 dX12_typePin_51 ?_
      refine xr_aload_n (r := (some a0)) C dX12_typePin_52 0 rfl ?_
      obtain ⟨fs18, r19, e18, f18, hm⟩ := hm
      refine xr_get (ci := 13) C 17 e18 f18 rfl inX12 (by decide) wd_667 dX12_typePin_53 ?_
      refine xr_bipush (v := 9) C dX12_typePin_56 rfl ?_
      obtain ⟨a21, rfl, hm⟩ := hm
      obtain ⟨N20, f20, y22, e20, b20, v20, hm⟩ := hm
      refine xr_lald C 1 rfl e20 b20 v20 dX12_typePin_58 ?_
      refine xr_aload_n (r := (some a0)) C dX12_typePin_59 0 rfl ?_
      obtain ⟨fs23, r24, e23, f23, hm⟩ := hm
      refine xr_get (ci := 13) C 22 e23 f23 rfl inX12 (by decide) wd_670 dX12_typePin_60 ?_
      refine xr_iload_n C dX12_typePin_63 1 rfl ?_
      obtain ⟨a26, rfl, hm⟩ := hm
      obtain ⟨N25, f25, x27, e25, b25, v25, hm⟩ := hm
      refine xr_iald C 0 rfl e25 b25 v25 dX12_typePin_64 ?_
      refine xr_i2l (v := x27.toInt64) C dX12_typePin_65 rfl ?_
      refine xr_lcmp C dX12_typePin_66 ?_
      refine xr_if_ne (tgt := 74) C dX12_typePin_67 (by decide) (fun q28 => ?_) (fun q28 => ?_)
      · replace hm := hm.2 q28
        refine xr_iconst (v := 0) C dX12_typePin_74 rfl ?_
        exact k_X12_typePin_L75 C hr hlk hnm hR a0 xp1 0 _ _ _ hm
      · replace hm := hm.1 q28
        refine xr_iconst (v := 1) C dX12_typePin_70 rfl ?_
        refine xr_goto (tgt := 75) C dX12_typePin_71 (by decide) ?_
        exact k_X12_typePin_L75 C hr hlk hnm hR a0 xp1 1 _ _ _ hm
    · replace hm := hm.1 q10
      exact xr_vreturn C hr hlk hm dX12_typePin_41
  · replace hm := hm.1 q6
    refine xr_aload_n (r := (some a0)) C dX12_typePin_9 0 rfl ?_
    obtain ⟨fs29, r30, e29, f29, hm⟩ := hm
    refine xr_get (ci := 13) C 31 e29 f29 rfl inX12 (by decide) wd_679 dX12_typePin_10 ?_
    refine xr_iload_n C dX12_typePin_13 1 rfl ?_
    refine xr_iconst (v := 2) C dX12_typePin_14 rfl ?_
    obtain ⟨a32, rfl, hm⟩ := hm
    obtain ⟨N31, f31, e31, b31, h33, v31, hm⟩ := hm
    refine xr_iast C 0 rfl e31 b31 v31 dX12_typePin_15 ?_
    refine xr_aload_n (r := (some a0)) C dX12_typePin_16 0 rfl ?_
    obtain ⟨fs34, r35, e34, f34, hm⟩ := hm
    refine xr_get (ci := 13) C 18 e34 f34 rfl inX12 (by decide) wd_668 dX12_typePin_17 ?_
    refine xr_bipush (v := 6) C dX12_typePin_20 rfl ?_
    refine xr_ldc2 (v := 2) C dX12_typePin_22 wd_736 ?_
    obtain ⟨a37, rfl, hm⟩ := hm
    obtain ⟨N36, f36, e36, b36, h38, v36, hm⟩ := hm
    refine xr_last C 1 rfl e36 b36 v36 dX12_typePin_25 ?_
    refine xr_aload_n (r := (some a0)) C dX12_typePin_26 0 rfl ?_
    refine xr_iconst (v := 4) C dX12_typePin_27 rfl ?_
    refine xr_iload_n C dX12_typePin_28 1 rfl ?_
    obtain ⟨⟨fs39, e39⟩, hm⟩ := hm
    refine xr_cVv (n := 2) (As := [.int 4, .int xp1]) (st := []) C (c_X12_reply a0 4 xp1 h38 0 0 hm) e39 rfl wd_737 wd_739 wd_740 wd_712 wd_738 (by decide +kernel) rfl (by rw [hR.1, hR.2]; decide) (Nat.zero_add _).symm (Nat.zero_add _).symm rfl (Nat.le_of_ble_eq_true rfl) dX12_typePin_29 (fun h41 hn => ?_)
    clear hm
    have hm := hn
    clear hn
    exact xr_vreturn C hr hlk hm dX12_typePin_32
set_option maxRecDepth 100000 in
set_option maxHeartbeats 4000000 in
theorem k_X12_answer_L373 {p : Program} {l : Launch} {e : Env} {R : Room} {s : State} {m : MethodId} {args : Array Value} {below : List Frame} {meth : Method} {c : Code} {D : va_G} {E : Ev} {A : Nat → Prop} {KC KS : Nat} (C : XC p R s m args c D E A 8 RX12 cX12_answer KC KS) (hr : meth.sig.returnType = none) (hlk : meth.locks = false) (hnm : meth.name = "answer") (hR : R.frames = 3 ∧ R.locals = 77) {Q : Hp → Prop} : ∀ (a0 : Nat) (xv1 : Int32) (s0 : Int32) (s1 : Int32) (s2 : Option Nat) (h : Hp) (kc ks : Nat), m_X12_answer_L373 E a0 xv1 s0 s1 s2 h kc ks Q → XW p l e R s m args below meth c (MQ below (va_Qv Q (XPost D A) A) args s KC KS A) D A KC KS 8 h kc ks [(0, .ref a0), (1, .int xv1)] 373 [.int s0, .int s1, va_rf s2] := by
  intro a0 xv1 s0 s1 s2 h kc ks hm
  obtain ⟨a211, rfl, hm⟩ := hm
  obtain ⟨N210, f210, e210, b210, h212, v210, hm⟩ := hm
  refine xr_iast C 0 rfl e210 b210 v210 dX12_answer_373 ?_
  refine xr_aload_n (r := (some a0)) C dX12_answer_374 0 rfl ?_
  refine xr_bipush (v := 6) C dX12_answer_375 rfl ?_
  refine xr_iload_n C dX12_answer_377 1 rfl ?_
  obtain ⟨⟨fs213, e213⟩, hm⟩ := hm
  refine xr_cVv (n := 2) (As := [.int 6, .int xv1]) (st := []) C (c_X12_reply a0 6 xv1 h212 0 0 hm) e213 rfl wd_737 wd_739 wd_740 wd_712 wd_738 (by decide +kernel) rfl (by rw [hR.1, hR.2]; decide) (Nat.zero_add _).symm (Nat.zero_add _).symm rfl (Nat.le_of_ble_eq_true rfl) dX12_answer_378 (fun h215 hn => ?_)
  clear hm
  have hm := hn
  clear hn
  exact xr_vreturn C hr hlk hm dX12_answer_381
set_option maxRecDepth 100000 in
set_option maxHeartbeats 4000000 in
theorem k_X12_answer_L97 {p : Program} {l : Launch} {e : Env} {R : Room} {s : State} {m : MethodId} {args : Array Value} {below : List Frame} {meth : Method} {c : Code} {D : va_G} {E : Ev} {A : Nat → Prop} {KC KS : Nat} (C : XC p R s m args c D E A 8 RX12 cX12_answer KC KS) (hr : meth.sig.returnType = none) (hlk : meth.locks = false) (hnm : meth.name = "answer") (hR : R.frames = 3 ∧ R.locals = 77) {Q : Hp → Prop} : ∀ (a0 : Nat) (xv1 : Int32) (yv4 : Int64) (xv6 : Int32) (h : Hp) (kc ks : Nat), m_X12_answer_L97 E a0 xv1 yv4 xv6 h kc ks Q → XW p l e R s m args below meth c (MQ below (va_Qv Q (XPost D A) A) args s KC KS A) D A KC KS 8 h kc ks [(0, .ref a0), (1, .int xv1), (4, .long yv4), (6, .int xv6)] 97 [] := by
  intro a0 xv1 yv4 xv6 h kc ks hm
  refine xr_aload_n (r := (some a0)) C dX12_answer_97 0 rfl ?_
  obtain ⟨fs47, r48, e47, f47, hm⟩ := hm
  refine xr_get (ci := 13) C 32 e47 f47 rfl inX12 (by decide) wd_680 dX12_answer_98 ?_
  refine xr_iload_n C dX12_answer_101 1 rfl ?_
  refine xr_lload C dX12_answer_102 2 rfl ?_
  obtain ⟨a50, rfl, hm⟩ := hm
  obtain ⟨N49, f49, e49, b49, h51, v49, hm⟩ := hm
  refine xr_last C 1 rfl e49 b49 v49 dX12_answer_104 ?_
  refine xr_aload_n (r := (some a0)) C dX12_answer_105 0 rfl ?_
  obtain ⟨fs52, r53, e52, f52, hm⟩ := hm
  refine xr_get (ci := 13) C 33 e52 f52 rfl inX12 (by decide) wd_681 dX12_answer_106 ?_
  refine xr_iload_n C dX12_answer_109 1 rfl ?_
  refine xr_aload_n (r := (some a0)) C dX12_answer_110 0 rfl ?_
  obtain ⟨fs54, r55, e54, f54, hm⟩ := hm
  refine xr_get (ci := 13) C 17 e54 f54 rfl inX12 (by decide) wd_667 dX12_answer_111 ?_
  refine xr_iconst (v := 4) C dX12_answer_114 rfl ?_
  obtain ⟨a57, rfl, hm⟩ := hm
  obtain ⟨N56, f56, y58, e56, b56, v56, hm⟩ := hm
  refine xr_lald C 1 rfl e56 b56 v56 dX12_answer_115 ?_
  obtain ⟨a60, rfl, hm⟩ := hm
  obtain ⟨N59, f59, e59, b59, h61, v59, hm⟩ := hm
  refine xr_last C 1 rfl e59 b59 v59 dX12_answer_116 ?_
  refine xr_aload_n (r := (some a0)) C dX12_answer_117 0 rfl ?_
  obtain ⟨fs62, r63, e62, f62, hm⟩ := hm
  refine xr_get (ci := 13) C 34 e62 f62 rfl inX12 (by decide) wd_682 dX12_answer_118 ?_
  refine xr_iload_n C dX12_answer_121 1 rfl ?_
  refine xr_aload_n (r := (some a0)) C dX12_answer_122 0 rfl ?_
  obtain ⟨fs64, r65, e64, f64, hm⟩ := hm
  refine xr_get (ci := 13) C 17 e64 f64 rfl inX12 (by decide) wd_667 dX12_answer_123 ?_
  refine xr_iconst (v := 5) C dX12_answer_126 rfl ?_
  obtain ⟨a67, rfl, hm⟩ := hm
  obtain ⟨N66, f66, y68, e66, b66, v66, hm⟩ := hm
  refine xr_lald C 1 rfl e66 b66 v66 dX12_answer_127 ?_
  obtain ⟨a70, rfl, hm⟩ := hm
  obtain ⟨N69, f69, e69, b69, h71, v69, hm⟩ := hm
  refine xr_last C 1 rfl e69 b69 v69 dX12_answer_128 ?_
  refine xr_aload_n (r := (some a0)) C dX12_answer_129 0 rfl ?_
  refine xr_ldc2 (v := 6) C dX12_answer_130 wd_741 ?_
  obtain ⟨⟨fs72, e72⟩, hm⟩ := hm
  refine xr_cVv (n := 1) (As := [.long 6]) (st := []) C (c_X12_begin a0 6 h71 0 0 hm) e72 rfl wd_751 wd_753 wd_754 wd_712 wd_752 (by decide +kernel) rfl (by rw [hR.1, hR.2]; decide) (Nat.zero_add _).symm (Nat.zero_add _).symm rfl (Nat.le_of_ble_eq_true rfl) dX12_answer_133 (fun h74 hn => ?_)
  clear hm
  have hm := hn
  clear hn
  refine xr_aload_n (r := (some a0)) C dX12_answer_136 0 rfl ?_
  refine xr_iload C dX12_answer_137 3 rfl ?_
  refine xr_i2l (v := xv6.toInt64) C dX12_answer_139 rfl ?_
  obtain ⟨⟨fs75, e75⟩, hm⟩ := hm
  refine xr_cVv (n := 1) (As := [.long xv6.toInt64]) (st := []) C (c_X12_more a0 xv6.toInt64 h74 0 0 hm) e75 rfl wd_747 wd_749 wd_750 wd_712 wd_748 (by decide +kernel) rfl (by rw [hR.1, hR.2]; decide) (Nat.zero_add _).symm (Nat.zero_add _).symm rfl (Nat.le_of_ble_eq_true rfl) dX12_answer_140 (fun h77 hn => ?_)
  clear hm
  have hm := hn
  clear hn
  refine xr_aload_n (r := (some a0)) C dX12_answer_143 0 rfl ?_
  refine xr_lload C dX12_answer_144 2 rfl ?_
  obtain ⟨⟨fs78, e78⟩, hm⟩ := hm
  refine xr_cVv (n := 1) (As := [.long yv4]) (st := []) C (c_X12_more a0 yv4 h77 0 0 hm) e78 rfl wd_747 wd_749 wd_750 wd_712 wd_748 (by decide +kernel) rfl (by rw [hR.1, hR.2]; decide) (Nat.zero_add _).symm (Nat.zero_add _).symm rfl (Nat.le_of_ble_eq_true rfl) dX12_answer_146 (fun h80 hn => ?_)
  clear hm
  have hm := hn
  clear hn
  refine xr_aload_n (r := (some a0)) C dX12_answer_149 0 rfl ?_
  refine xr_aload_n (r := (some a0)) C dX12_answer_150 0 rfl ?_
  obtain ⟨fs81, r82, e81, f81, hm⟩ := hm
  refine xr_get (ci := 13) C 17 e81 f81 rfl inX12 (by decide) wd_667 dX12_answer_151 ?_
  refine xr_iconst (v := 4) C dX12_answer_154 rfl ?_
  obtain ⟨a84, rfl, hm⟩ := hm
  obtain ⟨N83, f83, y85, e83, b83, v83, hm⟩ := hm
  refine xr_lald C 1 rfl e83 b83 v83 dX12_answer_155 ?_
  obtain ⟨⟨fs86, e86⟩, hm⟩ := hm
  refine xr_cVv (n := 1) (As := [.long y85]) (st := []) C (c_X12_more a0 y85 h80 0 0 hm) e86 rfl wd_747 wd_749 wd_750 wd_712 wd_748 (by decide +kernel) rfl (by rw [hR.1, hR.2]; decide) (Nat.zero_add _).symm (Nat.zero_add _).symm rfl (Nat.le_of_ble_eq_true rfl) dX12_answer_156 (fun h88 hn => ?_)
  clear hm
  have hm := hn
  clear hn
  refine xr_aload_n (r := (some a0)) C dX12_answer_159 0 rfl ?_
  refine xr_aload_n (r := (some a0)) C dX12_answer_160 0 rfl ?_
  obtain ⟨fs89, r90, e89, f89, hm⟩ := hm
  refine xr_get (ci := 13) C 17 e89 f89 rfl inX12 (by decide) wd_667 dX12_answer_161 ?_
  refine xr_iconst (v := 5) C dX12_answer_164 rfl ?_
  obtain ⟨a92, rfl, hm⟩ := hm
  obtain ⟨N91, f91, y93, e91, b91, v91, hm⟩ := hm
  refine xr_lald C 1 rfl e91 b91 v91 dX12_answer_165 ?_
  obtain ⟨⟨fs94, e94⟩, hm⟩ := hm
  refine xr_cVv (n := 1) (As := [.long y93]) (st := []) C (c_X12_more a0 y93 h88 0 0 hm) e94 rfl wd_747 wd_749 wd_750 wd_712 wd_748 (by decide +kernel) rfl (by rw [hR.1, hR.2]; decide) (Nat.zero_add _).symm (Nat.zero_add _).symm rfl (Nat.le_of_ble_eq_true rfl) dX12_answer_166 (fun h96 hn => ?_)
  clear hm
  have hm := hn
  clear hn
  refine xr_aload_n (r := (some a0)) C dX12_answer_169 0 rfl ?_
  refine xr_aload_n (r := (some a0)) C dX12_answer_170 0 rfl ?_
  obtain ⟨fs97, r98, e97, f97, hm⟩ := hm
  refine xr_get (ci := 13) C 27 e97 f97 rfl inX12 (by decide) wd_675 dX12_answer_171 ?_
  refine xr_iload_n C dX12_answer_174 1 rfl ?_
  obtain ⟨a100, rfl, hm⟩ := hm
  obtain ⟨N99, f99, x101, e99, b99, v99, hm⟩ := hm
  refine xr_iald C 0 rfl e99 b99 v99 dX12_answer_175 ?_
  refine xr_i2l (v := x101.toInt64) C dX12_answer_176 rfl ?_
  obtain ⟨⟨fs102, e102⟩, hm⟩ := hm
  refine xr_cVv (n := 1) (As := [.long x101.toInt64]) (st := []) C (c_X12_more a0 x101.toInt64 h96 0 0 hm) e102 rfl wd_747 wd_749 wd_750 wd_712 wd_748 (by decide +kernel) rfl (by rw [hR.1, hR.2]; decide) (Nat.zero_add _).symm (Nat.zero_add _).symm rfl (Nat.le_of_ble_eq_true rfl) dX12_answer_177 (fun h104 hn => ?_)
  clear hm
  have hm := hn
  clear hn
  refine xr_aload_n (r := (some a0)) C dX12_answer_180 0 rfl ?_
  refine xr_aload_n (r := (some a0)) C dX12_answer_181 0 rfl ?_
  obtain ⟨fs105, r106, e105, f105, hm⟩ := hm
  refine xr_get (ci := 13) C 31 e105 f105 rfl inX12 (by decide) wd_679 dX12_answer_182 ?_
  refine xr_iload_n C dX12_answer_185 1 rfl ?_
  obtain ⟨a108, rfl, hm⟩ := hm
  obtain ⟨N107, f107, x109, e107, b107, v107, hm⟩ := hm
  refine xr_iald C 0 rfl e107 b107 v107 dX12_answer_186 ?_
  refine xr_i2l (v := x109.toInt64) C dX12_answer_187 rfl ?_
  obtain ⟨⟨fs110, e110⟩, hm⟩ := hm
  refine xr_cVv (n := 1) (As := [.long x109.toInt64]) (st := []) C (c_X12_more a0 x109.toInt64 h104 0 0 hm) e110 rfl wd_747 wd_749 wd_750 wd_712 wd_748 (by decide +kernel) rfl (by rw [hR.1, hR.2]; decide) (Nat.zero_add _).symm (Nat.zero_add _).symm rfl (Nat.le_of_ble_eq_true rfl) dX12_answer_188 (fun h112 hn => ?_)
  clear hm
  have hm := hn
  clear hn
  refine xr_aload_n (r := (some a0)) C dX12_answer_191 0 rfl ?_
  obtain ⟨fs113, r114, e113, f113, hm⟩ := hm
  refine xr_get (ci := 13) C 18 e113 f113 rfl inX12 (by decide) wd_668 dX12_answer_192 ?_
  refine xr_iconst (v := 2) C dX12_answer_195 rfl ?_
  refine xr_aload_n (r := (some a0)) C dX12_answer_196 0 rfl ?_
  obtain ⟨fs115, r116, e115, f115, hm⟩ := hm
  refine xr_get (ci := 13) C 27 e115 f115 rfl inX12 (by decide) wd_675 dX12_answer_197 ?_
  refine xr_iload_n C dX12_answer_200 1 rfl ?_
  obtain ⟨a118, rfl, hm⟩ := hm
  obtain ⟨N117, f117, x119, e117, b117, v117, hm⟩ := hm
  refine xr_iald C 0 rfl e117 b117 v117 dX12_answer_201 ?_
  refine xr_i2l (v := x119.toInt64) C dX12_answer_202 rfl ?_
  obtain ⟨a121, rfl, hm⟩ := hm
  obtain ⟨N120, f120, e120, b120, h122, v120, hm⟩ := hm
  refine xr_last C 1 rfl e120 b120 v120 dX12_answer_203 ?_
  refine xr_aload_n (r := (some a0)) C dX12_answer_204 0 rfl ?_
  obtain ⟨fs123, r124, e123, f123, hm⟩ := hm
  refine xr_get (ci := 13) C 18 e123 f123 rfl inX12 (by decide) wd_668 dX12_answer_205 ?_
  refine xr_bipush (v := 6) C dX12_answer_208 rfl ?_
  refine xr_aload_n (r := (some a0)) C dX12_answer_210 0 rfl ?_
  obtain ⟨fs125, r126, e125, f125, hm⟩ := hm
  refine xr_get (ci := 13) C 31 e125 f125 rfl inX12 (by decide) wd_679 dX12_answer_211 ?_
  refine xr_iload_n C dX12_answer_214 1 rfl ?_
  obtain ⟨a128, rfl, hm⟩ := hm
  obtain ⟨N127, f127, x129, e127, b127, v127, hm⟩ := hm
  refine xr_iald C 0 rfl e127 b127 v127 dX12_answer_215 ?_
  refine xr_i2l (v := x129.toInt64) C dX12_answer_216 rfl ?_
  obtain ⟨a131, rfl, hm⟩ := hm
  obtain ⟨N130, f130, e130, b130, h132, v130, hm⟩ := hm
  refine xr_last C 1 rfl e130 b130 v130 dX12_answer_217 ?_
  refine xr_aload_n (r := (some a0)) C dX12_answer_218 0 rfl ?_
  obtain ⟨fs133, r134, e133, f133, hm⟩ := hm
  refine xr_get (ci := 13) C 18 e133 f133 rfl inX12 (by decide) wd_668 dX12_answer_219 ?_
  refine xr_bipush (v := 7) C dX12_answer_222 rfl ?_
  refine xr_iload C dX12_answer_224 3 rfl ?_
  refine xr_i2l (v := xv6.toInt64) C dX12_answer_226 rfl ?_
  obtain ⟨a136, rfl, hm⟩ := hm
  obtain ⟨N135, f135, e135, b135, h137, v135, hm⟩ := hm
  refine xr_last C 1 rfl e135 b135 v135 dX12_answer_227 ?_
  refine xr_aload_n (r := (some a0)) C dX12_answer_228 0 rfl ?_
  obtain ⟨fs138, r139, e138, f138, hm⟩ := hm
  refine xr_get (ci := 13) C 18 e138 f138 rfl inX12 (by decide) wd_668 dX12_answer_229 ?_
  refine xr_bipush (v := 8) C dX12_answer_232 rfl ?_
  refine xr_aload_n (r := (some a0)) C dX12_answer_234 0 rfl ?_
  refine xr_iconst (v := 0) C dX12_answer_235 rfl ?_
  refine xr_iload_n C dX12_answer_236 1 rfl ?_
  refine xr_i2l (v := xv1.toInt64) C dX12_answer_237 rfl ?_
  obtain ⟨⟨fs140, e140⟩, hm⟩ := hm
  refine xr_cVi (n := 2) (As := [.int 0, .long xv1.toInt64]) (st := [.int 8, va_rf r139]) C (c_X12_seal a0 0 xv1.toInt64 h137 0 0 hm) e140 rfl wd_743 wd_745 wd_746 wd_712 wd_744 (by decide +kernel) rfl (by rw [hR.1, hR.2]; decide) (Nat.zero_add _).symm (Nat.zero_add _).symm rfl (by simp [xv_cat, xv_ci, xv_cl, xv_cr, xv_cn]) dX12_answer_238 (fun x141 h142 hn => ?_)
  clear hm
  have hm := hn
  clear hn
  refine xr_i2l (v := x141.toInt64) C dX12_answer_241 rfl ?_
  obtain ⟨a144, rfl, hm⟩ := hm
  obtain ⟨N143, f143, e143, b143, h145, v143, hm⟩ := hm
  refine xr_last C 1 rfl e143 b143 v143 dX12_answer_242 ?_
  refine xr_bipush (v := 7) C dX12_answer_243 rfl ?_
  refine xr_aload_n (r := (some a0)) C dX12_answer_245 0 rfl ?_
  obtain ⟨fs146, x147, e146, f146, hm⟩ := hm
  refine xr_get (ci := 13) C 59 e146 f146 rfl inX12 (by decide) wd_742 dX12_answer_246 ?_
  refine xr_imul C dX12_answer_249 ?_
  refine xr_istore (lv' := [(7, .int (7 * x147)), (0, .ref a0), (1, .int xv1), (4, .long yv4), (6, .int xv6)]) C dX12_answer_250 (by decide) rfl ?_
  refine xr_aload_n (r := (some a0)) C dX12_answer_252 1 rfl ?_
  obtain ⟨fs148, r149, e148, f148, hm⟩ := hm
  refine xr_get (ci := 13) C 60 e148 f148 rfl inX12 (by decide) wd_703 dX12_answer_253 ?_
  refine xr_iload C dX12_answer_256 0 rfl ?_
  refine xr_iload_n C dX12_answer_258 2 rfl ?_
  refine xr_i2l (v := xv1.toInt64) C dX12_answer_259 rfl ?_
  obtain ⟨a151, rfl, hm⟩ := hm
  obtain ⟨N150, f150, e150, b150, h152, v150, hm⟩ := hm
  refine xr_last C 1 rfl e150 b150 v150 dX12_answer_260 ?_
  refine xr_aload_n (r := (some a0)) C dX12_answer_261 1 rfl ?_
  obtain ⟨fs153, r154, e153, f153, hm⟩ := hm
  refine xr_get (ci := 13) C 60 e153 f153 rfl inX12 (by decide) wd_703 dX12_answer_262 ?_
  refine xr_iload C dX12_answer_265 0 rfl ?_
  refine xr_iconst (v := 1) C dX12_answer_267 rfl ?_
  refine xr_iadd C dX12_answer_268 ?_
  refine xr_aload_n (r := (some a0)) C dX12_answer_269 1 rfl ?_
  obtain ⟨fs155, r156, e155, f155, hm⟩ := hm
  refine xr_get (ci := 13) C 27 e155 f155 rfl inX12 (by decide) wd_675 dX12_answer_270 ?_
  refine xr_iload_n C dX12_answer_273 2 rfl ?_
  obtain ⟨a158, rfl, hm⟩ := hm
  obtain ⟨N157, f157, x159, e157, b157, v157, hm⟩ := hm
  refine xr_iald C 0 rfl e157 b157 v157 dX12_answer_274 ?_
  refine xr_i2l (v := x159.toInt64) C dX12_answer_275 rfl ?_
  obtain ⟨a161, rfl, hm⟩ := hm
  obtain ⟨N160, f160, e160, b160, h162, v160, hm⟩ := hm
  refine xr_last C 1 rfl e160 b160 v160 dX12_answer_276 ?_
  refine xr_aload_n (r := (some a0)) C dX12_answer_277 1 rfl ?_
  obtain ⟨fs163, r164, e163, f163, hm⟩ := hm
  refine xr_get (ci := 13) C 60 e163 f163 rfl inX12 (by decide) wd_703 dX12_answer_278 ?_
  refine xr_iload C dX12_answer_281 0 rfl ?_
  refine xr_iconst (v := 2) C dX12_answer_283 rfl ?_
  refine xr_iadd C dX12_answer_284 ?_
  refine xr_lload C dX12_answer_285 3 rfl ?_
  obtain ⟨a166, rfl, hm⟩ := hm
  obtain ⟨N165, f165, e165, b165, h167, v165, hm⟩ := hm
  refine xr_last C 1 rfl e165 b165 v165 dX12_answer_287 ?_
  refine xr_aload_n (r := (some a0)) C dX12_answer_288 1 rfl ?_
  obtain ⟨fs168, r169, e168, f168, hm⟩ := hm
  refine xr_get (ci := 13) C 60 e168 f168 rfl inX12 (by decide) wd_703 dX12_answer_289 ?_
  refine xr_iload C dX12_answer_292 0 rfl ?_
  refine xr_iconst (v := 3) C dX12_answer_294 rfl ?_
  refine xr_iadd C dX12_answer_295 ?_
  refine xr_aload_n (r := (some a0)) C dX12_answer_296 1 rfl ?_
  obtain ⟨fs170, r171, e170, f170, hm⟩ := hm
  refine xr_get (ci := 13) C 17 e170 f170 rfl inX12 (by decide) wd_667 dX12_answer_297 ?_
  refine xr_iconst (v := 4) C dX12_answer_300 rfl ?_
  obtain ⟨a173, rfl, hm⟩ := hm
  obtain ⟨N172, f172, y174, e172, b172, v172, hm⟩ := hm
  refine xr_lald C 1 rfl e172 b172 v172 dX12_answer_301 ?_
  obtain ⟨a176, rfl, hm⟩ := hm
  obtain ⟨N175, f175, e175, b175, h177, v175, hm⟩ := hm
  refine xr_last C 1 rfl e175 b175 v175 dX12_answer_302 ?_
  refine xr_aload_n (r := (some a0)) C dX12_answer_303 1 rfl ?_
  obtain ⟨fs178, r179, e178, f178, hm⟩ := hm
  refine xr_get (ci := 13) C 60 e178 f178 rfl inX12 (by decide) wd_703 dX12_answer_304 ?_
  refine xr_iload C dX12_answer_307 0 rfl ?_
  refine xr_iconst (v := 4) C dX12_answer_309 rfl ?_
  refine xr_iadd C dX12_answer_310 ?_
  refine xr_aload_n (r := (some a0)) C dX12_answer_311 1 rfl ?_
  obtain ⟨fs180, r181, e180, f180, hm⟩ := hm
  refine xr_get (ci := 13) C 17 e180 f180 rfl inX12 (by decide) wd_667 dX12_answer_312 ?_
  refine xr_iconst (v := 5) C dX12_answer_315 rfl ?_
  obtain ⟨a183, rfl, hm⟩ := hm
  obtain ⟨N182, f182, y184, e182, b182, v182, hm⟩ := hm
  refine xr_lald C 1 rfl e182 b182 v182 dX12_answer_316 ?_
  obtain ⟨a186, rfl, hm⟩ := hm
  obtain ⟨N185, f185, e185, b185, h187, v185, hm⟩ := hm
  refine xr_last C 1 rfl e185 b185 v185 dX12_answer_317 ?_
  refine xr_aload_n (r := (some a0)) C dX12_answer_318 1 rfl ?_
  obtain ⟨fs188, r189, e188, f188, hm⟩ := hm
  refine xr_get (ci := 13) C 60 e188 f188 rfl inX12 (by decide) wd_703 dX12_answer_319 ?_
  refine xr_iload C dX12_answer_322 0 rfl ?_
  refine xr_iconst (v := 5) C dX12_answer_324 rfl ?_
  refine xr_iadd C dX12_answer_325 ?_
  refine xr_aload_n (r := (some a0)) C dX12_answer_326 1 rfl ?_
  obtain ⟨fs190, r191, e190, f190, hm⟩ := hm
  refine xr_get (ci := 13) C 31 e190 f190 rfl inX12 (by decide) wd_679 dX12_answer_327 ?_
  refine xr_iload_n C dX12_answer_330 2 rfl ?_
  obtain ⟨a193, rfl, hm⟩ := hm
  obtain ⟨N192, f192, x194, e192, b192, v192, hm⟩ := hm
  refine xr_iald C 0 rfl e192 b192 v192 dX12_answer_331 ?_
  refine xr_i2l (v := x194.toInt64) C dX12_answer_332 rfl ?_
  obtain ⟨a196, rfl, hm⟩ := hm
  obtain ⟨N195, f195, e195, b195, h197, v195, hm⟩ := hm
  refine xr_last C 1 rfl e195 b195 v195 dX12_answer_333 ?_
  refine xr_aload_n (r := (some a0)) C dX12_answer_334 1 rfl ?_
  obtain ⟨fs198, r199, e198, f198, hm⟩ := hm
  refine xr_get (ci := 13) C 60 e198 f198 rfl inX12 (by decide) wd_703 dX12_answer_335 ?_
  refine xr_iload C dX12_answer_338 0 rfl ?_
  refine xr_bipush (v := 6) C dX12_answer_340 rfl ?_
  refine xr_iadd C dX12_answer_342 ?_
  refine xr_iload C dX12_answer_343 4 rfl ?_
  refine xr_i2l (v := xv6.toInt64) C dX12_answer_345 rfl ?_
  obtain ⟨a201, rfl, hm⟩ := hm
  obtain ⟨N200, f200, e200, b200, h202, v200, hm⟩ := hm
  refine xr_last C 1 rfl e200 b200 v200 dX12_answer_346 ?_
  refine xr_aload_n (r := (some a0)) C dX12_answer_347 1 rfl ?_
  refine xr_dup C dX12_answer_348 rfl ?_
  obtain ⟨fs203, x204, e203, f203, hm⟩ := hm
  refine xr_get (ci := 13) C 59 e203 f203 rfl inX12 (by decide) wd_742 dX12_answer_349 ?_
  refine xr_iconst (v := 1) C dX12_answer_352 rfl ?_
  refine xr_iadd C dX12_answer_353 ?_
  obtain ⟨fs205, e205, f205, h206, eh205, hm⟩ := hm
  refine xr_put (ci := 13) (v := .int (x204 + 1)) C 59 .int tyX12 tyX12_ok nmX12 e205 f205 rfl inX12 (by decide) wd_742 rfl (by decide) rfl rfl eh205 dX12_answer_354 ?_
  refine xr_aload_n (r := (some a0)) C dX12_answer_357 1 rfl ?_
  obtain ⟨fs207, r208, e207, f207, hm⟩ := hm
  refine xr_get (ci := 13) C 30 e207 f207 rfl inX12 (by decide) wd_678 dX12_answer_358 ?_
  refine xr_iload_n C dX12_answer_361 2 rfl ?_
  refine xr_iload C dX12_answer_362 4 rfl ?_
  refine xr_iconst (v := 1) C dX12_answer_364 rfl ?_
  refine xr_icmp_ne (tgt := 372) C dX12_answer_365 (by decide) (fun q209 => ?_) (fun q209 => ?_)
  · replace hm := hm.2 q209
    refine xr_iconst (v := 0) C dX12_answer_372 rfl ?_
    refine xr_sub [1, 2] rfl ?_
    exact k_X12_answer_L373 C hr hlk hnm hR a0 xv1 0 xv1 r208 _ _ _ hm
  · replace hm := hm.1 q209
    refine xr_iconst (v := 2) C dX12_answer_368 rfl ?_
    refine xr_goto (tgt := 373) C dX12_answer_369 (by decide) ?_
    refine xr_sub [1, 2] rfl ?_
    exact k_X12_answer_L373 C hr hlk hnm hR a0 xv1 2 xv1 r208 _ _ _ hm
set_option maxRecDepth 100000 in
set_option maxHeartbeats 4000000 in
theorem k_X12_answer_L34 {p : Program} {l : Launch} {e : Env} {R : Room} {s : State} {m : MethodId} {args : Array Value} {below : List Frame} {meth : Method} {c : Code} {D : va_G} {E : Ev} {A : Nat → Prop} {KC KS : Nat} (C : XC p R s m args c D E A 8 RX12 cX12_answer KC KS) (hr : meth.sig.returnType = none) (hlk : meth.locks = false) (hnm : meth.name = "answer") (hR : R.frames = 3 ∧ R.locals = 77) {Q : Hp → Prop} : ∀ (a0 : Nat) (xv1 : Int32) (yv4 : Int64) (h : Hp) (kc ks : Nat), m_X12_answer_L34 E a0 xv1 yv4 h kc ks Q → XW p l e R s m args below meth c (MQ below (va_Qv Q (XPost D A) A) args s KC KS A) D A KC KS 8 h kc ks [(0, .ref a0), (1, .int xv1), (4, .long yv4)] 34 [] := by
  intro a0 xv1 yv4 h kc ks hm
  refine xr_iconst (v := 0) C dX12_answer_34 rfl ?_
  refine xr_istore (lv' := [(6, .int 0), (0, .ref a0), (1, .int xv1), (4, .long yv4)]) C dX12_answer_35 (by decide) rfl ?_
  refine xr_goto (tgt := 97) C dX12_answer_37 (by decide) ?_
  refine xr_sub [1, 2, 3, 0] rfl ?_
  exact k_X12_answer_L97 C hr hlk hnm hR a0 xv1 yv4 0 _ _ _ hm
set_option maxRecDepth 100000 in
set_option maxHeartbeats 4000000 in
theorem c_X12_answer {l : Launch} {D : va_G} {E : Ev} (a0 : Nat) (xp1 : Int32) (h : Hp) (kc ks : Nat) {Q : Hp → Prop} (hm : m_X12_answer E a0 xp1 h kc ks Q) : XMet l yX12_answer cX12_answer 8 none 3 77 kc ks D E h [.ref a0, .int xp1] (fun A => va_Qv Q (XPost D A) A) := by
  refine xm_of (lv0 := [(0, .ref a0), (1, .int xp1)]) (by decide) (Nat.le_of_ble_eq_true rfl) rfl RX12 rfl (fun p e s m args below meth c A R hRm C hr hlk hnm => ?_)
  have hR : R.frames = 3 ∧ R.locals = 77 := by rw [hRm]; exact ⟨rfl, rfl⟩
  refine xr_aload_n (r := (some a0)) C dX12_answer_0 0 rfl ?_
  obtain ⟨fs1, r2, e1, f1, hm⟩ := hm
  refine xr_get (ci := 13) C 17 e1 f1 rfl inX12 (by decide) wd_667 dX12_answer_1 ?_
  refine xr_bipush (v := 7) C dX12_answer_4 rfl ?_
  obtain ⟨a4, rfl, hm⟩ := hm
  obtain ⟨N3, f3, y5, e3, b3, v3, hm⟩ := hm
  refine xr_lald C 1 rfl e3 b3 v3 dX12_answer_6 ?_
  refine xr_lstore_n (lv' := [(2, .long y5), (0, .ref a0), (1, .int xp1)]) C dX12_answer_7 (by decide) rfl ?_
  refine xr_aload_n (r := (some a0)) C dX12_answer_8 1 rfl ?_
  obtain ⟨fs6, r7, e6, f6, hm⟩ := hm
  refine xr_get (ci := 13) C 17 e6 f6 rfl inX12 (by decide) wd_667 dX12_answer_9 ?_
  refine xr_iconst (v := 3) C dX12_answer_12 rfl ?_
  obtain ⟨a9, rfl, hm⟩ := hm
  obtain ⟨N8, f8, y10, e8, b8, v8, hm⟩ := hm
  refine xr_lald C 1 rfl e8 b8 v8 dX12_answer_13 ?_
  refine xr_lstore (lv' := [(4, .long y10), (2, .long y5), (0, .ref a0), (1, .int xp1)]) C dX12_answer_14 (by decide) rfl ?_
  refine xr_iconst (v := 1) C dX12_answer_16 rfl ?_
  refine xr_istore (lv' := [(6, .int 1), (4, .long y10), (2, .long y5), (0, .ref a0), (1, .int xp1)]) C dX12_answer_17 (by decide) rfl ?_
  refine xr_aload_n (r := (some a0)) C dX12_answer_19 3 rfl ?_
  obtain ⟨fs11, r12, e11, f11, hm⟩ := hm
  refine xr_get (ci := 13) C 28 e11 f11 rfl inX12 (by decide) wd_676 dX12_answer_20 ?_
  refine xr_iload_n C dX12_answer_23 4 rfl ?_
  obtain ⟨a14, rfl, hm⟩ := hm
  obtain ⟨N13, f13, x15, e13, b13, v13, hm⟩ := hm
  refine xr_iald C 0 rfl e13 b13 v13 dX12_answer_24 ?_
  refine xr_if_eq (tgt := 34) C dX12_answer_25 (by decide) (fun q16 => ?_) (fun q16 => ?_)
  · replace hm := hm.1 q16
    refine xr_sub [3, 4, 1] rfl ?_
    exact k_X12_answer_L34 C hr hlk hnm hR a0 xp1 y10 _ _ _ hm
  · replace hm := hm.2 q16
    refine xr_lload_n C dX12_answer_28 2 rfl ?_
    refine xr_lconst (v := 0) C dX12_answer_29 rfl ?_
    refine xr_lcmp C dX12_answer_30 ?_
    refine xr_if_ne (tgt := 40) C dX12_answer_31 (by decide) (fun q17 => ?_) (fun q17 => ?_)
    · replace hm := hm.2 q17
      refine xr_lload_n C dX12_answer_40 2 rfl ?_
      refine xr_ldc2 (v := 2) C dX12_answer_41 wd_736 ?_
      refine xr_lcmp C dX12_answer_44 ?_
      refine xr_if_ne (tgt := 97) C dX12_answer_45 (by decide) (fun q18 => ?_) (fun q18 => ?_)
      · replace hm := hm.2 q18
        refine xr_sub [3, 4, 1, 0] rfl ?_
        exact k_X12_answer_L97 C hr hlk hnm hR a0 xp1 y10 1 _ _ _ hm
      · replace hm := hm.1 q18
        refine xr_lload C dX12_answer_48 1 rfl ?_
        refine xr_aload_n (r := (some a0)) C dX12_answer_50 3 rfl ?_
        obtain ⟨fs19, r20, e19, f19, hm⟩ := hm
        refine xr_get (ci := 13) C 23 e19 f19 rfl inX12 (by decide) wd_671 dX12_answer_51 ?_
        refine xr_iload_n C dX12_answer_54 4 rfl ?_
        obtain ⟨a22, rfl, hm⟩ := hm
        obtain ⟨N21, f21, y23, e21, b21, v21, hm⟩ := hm
        refine xr_lald C 1 rfl e21 b21 v21 dX12_answer_55 ?_
        refine xr_lcmp C dX12_answer_56 ?_
        refine xr_if_gt (tgt := 97) C dX12_answer_57 (by decide) (fun q24 => ?_) (fun q24 => ?_)
        · replace hm := hm.1 q24
          refine xr_sub [3, 4, 1, 0] rfl ?_
          exact k_X12_answer_L97 C hr hlk hnm hR a0 xp1 y10 1 _ _ _ hm
        · replace hm := hm.2 q24
          refine xr_aload_n (r := (some a0)) C dX12_answer_60 3 rfl ?_
          obtain ⟨fs25, r26, e25, f25, hm⟩ := hm
          refine xr_get (ci := 13) C 29 e25 f25 rfl inX12 (by decide) wd_677 dX12_answer_61 ?_
          refine xr_iload_n C dX12_answer_64 4 rfl ?_
          obtain ⟨a28, rfl, hm⟩ := hm
          obtain ⟨N27, f27, x29, e27, b27, v27, hm⟩ := hm
          refine xr_iald C 0 rfl e27 b27 v27 dX12_answer_65 ?_
          refine xr_aload_n (r := (some a0)) C dX12_answer_66 3 rfl ?_
          obtain ⟨fs30, r31, e30, f30, hm⟩ := hm
          refine xr_get (ci := 13) C 24 e30 f30 rfl inX12 (by decide) wd_672 dX12_answer_67 ?_
          refine xr_iload_n C dX12_answer_70 4 rfl ?_
          obtain ⟨a33, rfl, hm⟩ := hm
          obtain ⟨N32, f32, x34, e32, b32, v32, hm⟩ := hm
          refine xr_iald C 0 rfl e32 b32 v32 dX12_answer_71 ?_
          refine xr_icmp_ge (tgt := 97) C dX12_answer_72 (by decide) (fun q35 => ?_) (fun q35 => ?_)
          · replace hm := hm.1 q35
            refine xr_sub [3, 4, 1, 0] rfl ?_
            exact k_X12_answer_L97 C hr hlk hnm hR a0 xp1 y10 1 _ _ _ hm
          · replace hm := hm.2 q35
            refine xr_aload_n (r := (some a0)) C dX12_answer_75 3 rfl ?_
            refine xr_iload_n C dX12_answer_76 4 rfl ?_
            obtain ⟨⟨fs36, e36⟩, hm⟩ := hm
            refine xr_cVi (n := 1) (As := [.int xp1]) (st := []) C (c_X12_writes a0 xp1 h 0 0 hm) e36 rfl wd_732 wd_734 wd_735 wd_712 wd_733 (by decide +kernel) rfl (by rw [hR.1, hR.2]; decide) (Nat.zero_add _).symm (Nat.zero_add _).symm rfl (Nat.le_of_ble_eq_true rfl) dX12_answer_77 (fun x37 h38 hn => ?_)
            clear hm
            have hm := hn
            clear hn
            refine xr_if_ne (tgt := 84) C dX12_answer_80 (by decide) (fun q39 => ?_) (fun q39 => ?_)
            · replace hm := hm.2 q39
              refine xr_aload_n (r := (some a0)) C dX12_answer_84 3 rfl ?_
              obtain ⟨fs40, r41, e40, f40, hm⟩ := hm
              refine xr_get (ci := 13) C 29 e40 f40 rfl inX12 (by decide) wd_677 dX12_answer_85 ?_
              refine xr_iload_n C dX12_answer_88 4 rfl ?_
              refine xr_dup2_11 C dX12_answer_89 rfl (xv_cat _) ?_
              obtain ⟨a43, rfl, hm⟩ := hm
              obtain ⟨N42, f42, x44, e42, b42, v42, hm⟩ := hm
              refine xr_iald C 0 rfl e42 b42 v42 dX12_answer_90 ?_
              refine xr_iconst (v := 1) C dX12_answer_91 rfl ?_
              refine xr_iadd C dX12_answer_92 ?_
              obtain ⟨N45, f45, e45, b45, h46, v45, hm⟩ := hm
              refine xr_iast C 0 rfl e45 b45 v45 dX12_answer_93 ?_
              refine xr_iconst (v := 2) C dX12_answer_94 rfl ?_
              refine xr_istore (lv' := [(6, .int 2), (4, .long y10), (2, .long y5), (0, .ref a0), (1, .int xp1)]) C dX12_answer_95 (by decide) rfl ?_
              refine xr_sub [3, 4, 1, 0] rfl ?_
              exact k_X12_answer_L97 C hr hlk hnm hR a0 xp1 y10 2 _ _ _ hm
            · replace hm := hm.1 q39
              exact xr_vreturn C hr hlk hm dX12_answer_83
    · replace hm := hm.1 q17
      refine xr_sub [3, 4, 1] rfl ?_
      exact k_X12_answer_L34 C hr hlk hnm hR a0 xp1 y10 _ _ _ hm
set_option maxRecDepth 100000 in
set_option maxHeartbeats 4000000 in
theorem k_X12_finish_L99 {p : Program} {l : Launch} {e : Env} {R : Room} {s : State} {m : MethodId} {args : Array Value} {below : List Frame} {meth : Method} {c : Code} {D : va_G} {E : Ev} {A : Nat → Prop} {KC KS : Nat} (C : XC p R s m args c D E A 4 RX12 cX12_finish KC KS) (hr : meth.sig.returnType = none) (hlk : meth.locks = false) (hnm : meth.name = "finish") (hR : R.frames = 3 ∧ R.locals = 77) {Q : Hp → Prop} : ∀ (a0 : Nat) (xv1 : Int32) (s0 : Int32) (h : Hp) (kc ks : Nat), m_X12_finish_L99 E a0 xv1 s0 h kc ks Q → XW p l e R s m args below meth c (MQ below (va_Qv Q (XPost D A) A) args s KC KS A) D A KC KS 4 h kc ks [(0, .ref a0), (1, .int xv1)] 99 [.int s0] := by
  intro a0 xv1 s0 h kc ks hm
  refine xr_istore_n (lv' := [(3, .int s0), (0, .ref a0), (1, .int xv1)]) C dX12_finish_99 (by decide) rfl ?_
  refine xr_aload_n (r := (some a0)) C dX12_finish_100 1 rfl ?_
  refine xr_ldc2 (v := 10) C dX12_finish_101 wd_760 ?_
  obtain ⟨⟨fs49, e49⟩, hm⟩ := hm
  refine xr_cVv (n := 1) (As := [.long 10]) (st := []) C (c_X12_begin a0 10 h 0 0 hm) e49 rfl wd_751 wd_753 wd_754 wd_712 wd_752 (by decide +kernel) rfl (by rw [hR.1, hR.2]; decide) (Nat.zero_add _).symm (Nat.zero_add _).symm rfl (Nat.le_of_ble_eq_true rfl) dX12_finish_104 (fun h51 hn => ?_)
  clear hm
  have hm := hn
  clear hn
  refine xr_aload_n (r := (some a0)) C dX12_finish_107 1 rfl ?_
  refine xr_iload_n C dX12_finish_108 0 rfl ?_
  refine xr_i2l (v := s0.toInt64) C dX12_finish_109 rfl ?_
  obtain ⟨⟨fs52, e52⟩, hm⟩ := hm
  refine xr_cVv (n := 1) (As := [.long s0.toInt64]) (st := []) C (c_X12_more a0 s0.toInt64 h51 0 0 hm) e52 rfl wd_747 wd_749 wd_750 wd_712 wd_748 (by decide +kernel) rfl (by rw [hR.1, hR.2]; decide) (Nat.zero_add _).symm (Nat.zero_add _).symm rfl (Nat.le_of_ble_eq_true rfl) dX12_finish_110 (fun h54 hn => ?_)
  clear hm
  have hm := hn
  clear hn
  refine xr_aload_n (r := (some a0)) C dX12_finish_113 1 rfl ?_
  refine xr_aload_n (r := (some a0)) C dX12_finish_114 1 rfl ?_
  obtain ⟨fs55, r56, e55, f55, hm⟩ := hm
  refine xr_get (ci := 13) C 32 e55 f55 rfl inX12 (by decide) wd_680 dX12_finish_115 ?_
  refine xr_iload_n C dX12_finish_118 2 rfl ?_
  obtain ⟨a58, rfl, hm⟩ := hm
  obtain ⟨N57, f57, y59, e57, b57, v57, hm⟩ := hm
  refine xr_lald C 1 rfl e57 b57 v57 dX12_finish_119 ?_
  obtain ⟨⟨fs60, e60⟩, hm⟩ := hm
  refine xr_cVv (n := 1) (As := [.long y59]) (st := []) C (c_X12_more a0 y59 h54 0 0 hm) e60 rfl wd_747 wd_749 wd_750 wd_712 wd_748 (by decide +kernel) rfl (by rw [hR.1, hR.2]; decide) (Nat.zero_add _).symm (Nat.zero_add _).symm rfl (Nat.le_of_ble_eq_true rfl) dX12_finish_120 (fun h62 hn => ?_)
  clear hm
  have hm := hn
  clear hn
  refine xr_aload_n (r := (some a0)) C dX12_finish_123 1 rfl ?_
  refine xr_aload_n (r := (some a0)) C dX12_finish_124 1 rfl ?_
  obtain ⟨fs63, r64, e63, f63, hm⟩ := hm
  refine xr_get (ci := 13) C 33 e63 f63 rfl inX12 (by decide) wd_681 dX12_finish_125 ?_
  refine xr_iload_n C dX12_finish_128 2 rfl ?_
  obtain ⟨a66, rfl, hm⟩ := hm
  obtain ⟨N65, f65, y67, e65, b65, v65, hm⟩ := hm
  refine xr_lald C 1 rfl e65 b65 v65 dX12_finish_129 ?_
  obtain ⟨⟨fs68, e68⟩, hm⟩ := hm
  refine xr_cVv (n := 1) (As := [.long y67]) (st := []) C (c_X12_more a0 y67 h62 0 0 hm) e68 rfl wd_747 wd_749 wd_750 wd_712 wd_748 (by decide +kernel) rfl (by rw [hR.1, hR.2]; decide) (Nat.zero_add _).symm (Nat.zero_add _).symm rfl (Nat.le_of_ble_eq_true rfl) dX12_finish_130 (fun h70 hn => ?_)
  clear hm
  have hm := hn
  clear hn
  refine xr_aload_n (r := (some a0)) C dX12_finish_133 1 rfl ?_
  refine xr_aload_n (r := (some a0)) C dX12_finish_134 1 rfl ?_
  obtain ⟨fs71, r72, e71, f71, hm⟩ := hm
  refine xr_get (ci := 13) C 34 e71 f71 rfl inX12 (by decide) wd_682 dX12_finish_135 ?_
  refine xr_iload_n C dX12_finish_138 2 rfl ?_
  obtain ⟨a74, rfl, hm⟩ := hm
  obtain ⟨N73, f73, y75, e73, b73, v73, hm⟩ := hm
  refine xr_lald C 1 rfl e73 b73 v73 dX12_finish_139 ?_
  obtain ⟨⟨fs76, e76⟩, hm⟩ := hm
  refine xr_cVv (n := 1) (As := [.long y75]) (st := []) C (c_X12_more a0 y75 h70 0 0 hm) e76 rfl wd_747 wd_749 wd_750 wd_712 wd_748 (by decide +kernel) rfl (by rw [hR.1, hR.2]; decide) (Nat.zero_add _).symm (Nat.zero_add _).symm rfl (Nat.le_of_ble_eq_true rfl) dX12_finish_140 (fun h78 hn => ?_)
  clear hm
  have hm := hn
  clear hn
  refine xr_aload_n (r := (some a0)) C dX12_finish_143 1 rfl ?_
  refine xr_aload_n (r := (some a0)) C dX12_finish_144 1 rfl ?_
  obtain ⟨fs79, r80, e79, f79, hm⟩ := hm
  refine xr_get (ci := 13) C 27 e79 f79 rfl inX12 (by decide) wd_675 dX12_finish_145 ?_
  refine xr_iload_n C dX12_finish_148 2 rfl ?_
  obtain ⟨a82, rfl, hm⟩ := hm
  obtain ⟨N81, f81, x83, e81, b81, v81, hm⟩ := hm
  refine xr_iald C 0 rfl e81 b81 v81 dX12_finish_149 ?_
  refine xr_i2l (v := x83.toInt64) C dX12_finish_150 rfl ?_
  obtain ⟨⟨fs84, e84⟩, hm⟩ := hm
  refine xr_cVv (n := 1) (As := [.long x83.toInt64]) (st := []) C (c_X12_more a0 x83.toInt64 h78 0 0 hm) e84 rfl wd_747 wd_749 wd_750 wd_712 wd_748 (by decide +kernel) rfl (by rw [hR.1, hR.2]; decide) (Nat.zero_add _).symm (Nat.zero_add _).symm rfl (Nat.le_of_ble_eq_true rfl) dX12_finish_151 (fun h86 hn => ?_)
  clear hm
  have hm := hn
  clear hn
  refine xr_aload_n (r := (some a0)) C dX12_finish_154 1 rfl ?_
  obtain ⟨fs87, r88, e87, f87, hm⟩ := hm
  refine xr_get (ci := 13) C 18 e87 f87 rfl inX12 (by decide) wd_668 dX12_finish_155 ?_
  refine xr_bipush (v := 7) C dX12_finish_158 rfl ?_
  refine xr_iload_n C dX12_finish_160 0 rfl ?_
  refine xr_i2l (v := s0.toInt64) C dX12_finish_161 rfl ?_
  obtain ⟨a90, rfl, hm⟩ := hm
  obtain ⟨N89, f89, e89, b89, h91, v89, hm⟩ := hm
  refine xr_last C 1 rfl e89 b89 v89 dX12_finish_162 ?_
  refine xr_aload_n (r := (some a0)) C dX12_finish_163 1 rfl ?_
  obtain ⟨fs92, r93, e92, f92, hm⟩ := hm
  refine xr_get (ci := 13) C 18 e92 f92 rfl inX12 (by decide) wd_668 dX12_finish_164 ?_
  refine xr_bipush (v := 8) C dX12_finish_167 rfl ?_
  refine xr_aload_n (r := (some a0)) C dX12_finish_169 1 rfl ?_
  refine xr_iconst (v := 0) C dX12_finish_170 rfl ?_
  refine xr_iload_n C dX12_finish_171 2 rfl ?_
  refine xr_i2l (v := xv1.toInt64) C dX12_finish_172 rfl ?_
  obtain ⟨⟨fs94, e94⟩, hm⟩ := hm
  refine xr_cVi (n := 2) (As := [.int 0, .long xv1.toInt64]) (st := [.int 8, va_rf r93]) C (c_X12_seal a0 0 xv1.toInt64 h91 0 0 hm) e94 rfl wd_743 wd_745 wd_746 wd_712 wd_744 (by decide +kernel) rfl (by rw [hR.1, hR.2]; decide) (Nat.zero_add _).symm (Nat.zero_add _).symm rfl (by simp [xv_cat, xv_ci, xv_cl, xv_cr, xv_cn]) dX12_finish_173 (fun x95 h96 hn => ?_)
  clear hm
  have hm := hn
  clear hn
  refine xr_i2l (v := x95.toInt64) C dX12_finish_176 rfl ?_
  obtain ⟨a98, rfl, hm⟩ := hm
  obtain ⟨N97, f97, e97, b97, h99, v97, hm⟩ := hm
  refine xr_last C 1 rfl e97 b97 v97 dX12_finish_177 ?_
  refine xr_aload_n (r := (some a0)) C dX12_finish_178 1 rfl ?_
  obtain ⟨fs100, r101, e100, f100, hm⟩ := hm
  refine xr_get (ci := 13) C 30 e100 f100 rfl inX12 (by decide) wd_678 dX12_finish_179 ?_
  refine xr_iload_n C dX12_finish_182 2 rfl ?_
  refine xr_iconst (v := 0) C dX12_finish_183 rfl ?_
  obtain ⟨a103, rfl, hm⟩ := hm
  obtain ⟨N102, f102, e102, b102, h104, v102, hm⟩ := hm
  refine xr_iast C 0 rfl e102 b102 v102 dX12_finish_184 ?_
  refine xr_aload_n (r := (some a0)) C dX12_finish_185 1 rfl ?_
  refine xr_bipush (v := 10) C dX12_finish_186 rfl ?_
  refine xr_iload_n C dX12_finish_188 2 rfl ?_
  obtain ⟨⟨fs105, e105⟩, hm⟩ := hm
  refine xr_cVv (n := 2) (As := [.int 10, .int xv1]) (st := []) C (c_X12_reply a0 10 xv1 h104 0 0 hm) e105 rfl wd_737 wd_739 wd_740 wd_712 wd_738 (by decide +kernel) rfl (by rw [hR.1, hR.2]; decide) (Nat.zero_add _).symm (Nat.zero_add _).symm rfl (Nat.le_of_ble_eq_true rfl) dX12_finish_189 (fun h107 hn => ?_)
  clear hm
  have hm := hn
  clear hn
  exact xr_vreturn C hr hlk hm dX12_finish_192
set_option maxRecDepth 100000 in
set_option maxHeartbeats 4000000 in
theorem k_X12_finish_L90 {p : Program} {l : Launch} {e : Env} {R : Room} {s : State} {m : MethodId} {args : Array Value} {below : List Frame} {meth : Method} {c : Code} {D : va_G} {E : Ev} {A : Nat → Prop} {KC KS : Nat} (C : XC p R s m args c D E A 4 RX12 cX12_finish KC KS) (hr : meth.sig.returnType = none) (hlk : meth.locks = false) (hnm : meth.name = "finish") (hR : R.frames = 3 ∧ R.locals = 77) {Q : Hp → Prop} : ∀ (a0 : Nat) (xv1 : Int32) (xv2 : Int32) (h : Hp) (kc ks : Nat), m_X12_finish_L90 E a0 xv1 xv2 h kc ks Q → XW p l e R s m args below meth c (MQ below (va_Qv Q (XPost D A) A) args s KC KS A) D A KC KS 4 h kc ks [(0, .ref a0), (1, .int xv1), (2, .int xv2)] 90 [] := by
  intro a0 xv1 xv2 h kc ks hm
  refine xr_iload_n C dX12_finish_90 2 rfl ?_
  refine xr_if_eq (tgt := 98) C dX12_finish_91 (by decide) (fun q48 => ?_) (fun q48 => ?_)
  · replace hm := hm.1 q48
    refine xr_iconst (v := 0) C dX12_finish_98 rfl ?_
    refine xr_sub [0, 1] rfl ?_
    exact k_X12_finish_L99 C hr hlk hnm hR a0 xv1 0 _ _ _ hm
  · replace hm := hm.2 q48
    refine xr_iconst (v := 2) C dX12_finish_94 rfl ?_
    refine xr_goto (tgt := 99) C dX12_finish_95 (by decide) ?_
    refine xr_sub [0, 1] rfl ?_
    exact k_X12_finish_L99 C hr hlk hnm hR a0 xv1 2 _ _ _ hm
set_option maxRecDepth 100000 in
set_option maxHeartbeats 4000000 in
theorem k_X12_finish_L69 {p : Program} {l : Launch} {e : Env} {R : Room} {s : State} {m : MethodId} {args : Array Value} {below : List Frame} {meth : Method} {c : Code} {D : va_G} {E : Ev} {A : Nat → Prop} {KC KS : Nat} (C : XC p R s m args c D E A 4 RX12 cX12_finish KC KS) (hr : meth.sig.returnType = none) (hlk : meth.locks = false) (hnm : meth.name = "finish") (hR : R.frames = 3 ∧ R.locals = 77) {Q : Hp → Prop} : ∀ (a0 : Nat) (xv1 : Int32) (s0 : Int32) (h : Hp) (kc ks : Nat), m_X12_finish_L69 E a0 xv1 s0 h kc ks Q → XW p l e R s m args below meth c (MQ below (va_Qv Q (XPost D A) A) args s KC KS A) D A KC KS 4 h kc ks [(0, .ref a0), (1, .int xv1)] 69 [.int s0] := by
  intro a0 xv1 s0 h kc ks hm
  refine xr_istore_n (lv' := [(2, .int s0), (0, .ref a0), (1, .int xv1)]) C dX12_finish_69 (by decide) rfl ?_
  refine xr_iload_n C dX12_finish_70 0 rfl ?_
  refine xr_if_eq (tgt := 90) C dX12_finish_71 (by decide) (fun q38 => ?_) (fun q38 => ?_)
  · replace hm := hm.1 q38
    refine xr_sub [1, 2, 0] rfl ?_
    exact k_X12_finish_L90 C hr hlk hnm hR a0 xv1 s0 _ _ _ hm
  · replace hm := hm.2 q38
    refine xr_aload_n (r := (some a0)) C dX12_finish_74 1 rfl ?_
    refine xr_iload_n C dX12_finish_75 2 rfl ?_
    obtain ⟨⟨fs39, e39⟩, hm⟩ := hm
    refine xr_cVi (n := 1) (As := [.int xv1]) (st := []) C (c_X12_writes a0 xv1 h 0 0 hm) e39 rfl wd_732 wd_734 wd_735 wd_712 wd_733 (by decide +kernel) rfl (by rw [hR.1, hR.2]; decide) (Nat.zero_add _).symm (Nat.zero_add _).symm rfl (Nat.le_of_ble_eq_true rfl) dX12_finish_76 (fun x40 h41 hn => ?_)
    clear hm
    have hm := hn
    clear hn
    refine xr_if_ne (tgt := 83) C dX12_finish_79 (by decide) (fun q42 => ?_) (fun q42 => ?_)
    · replace hm := hm.2 q42
      refine xr_aload_n (r := (some a0)) C dX12_finish_83 1 rfl ?_
      obtain ⟨fs43, r44, e43, f43, hm⟩ := hm
      refine xr_get (ci := 13) C 29 e43 f43 rfl inX12 (by decide) wd_677 dX12_finish_84 ?_
      refine xr_iload_n C dX12_finish_87 2 rfl ?_
      refine xr_iconst (v := 0) C dX12_finish_88 rfl ?_
      obtain ⟨a46, rfl, hm⟩ := hm
      obtain ⟨N45, f45, e45, b45, h47, v45, hm⟩ := hm
      refine xr_iast C 0 rfl e45 b45 v45 dX12_finish_89 ?_
      refine xr_sub [1, 2, 0] rfl ?_
      exact k_X12_finish_L90 C hr hlk hnm hR a0 xv1 s0 _ _ _ hm
    · replace hm := hm.1 q42
      exact xr_vreturn C hr hlk hm dX12_finish_82
set_option maxRecDepth 100000 in
set_option maxHeartbeats 4000000 in
theorem k_X12_finish_L68 {p : Program} {l : Launch} {e : Env} {R : Room} {s : State} {m : MethodId} {args : Array Value} {below : List Frame} {meth : Method} {c : Code} {D : va_G} {E : Ev} {A : Nat → Prop} {KC KS : Nat} (C : XC p R s m args c D E A 4 RX12 cX12_finish KC KS) (hr : meth.sig.returnType = none) (hlk : meth.locks = false) (hnm : meth.name = "finish") (hR : R.frames = 3 ∧ R.locals = 77) {Q : Hp → Prop} : ∀ (a0 : Nat) (xv1 : Int32) (h : Hp) (kc ks : Nat), m_X12_finish_L68 E a0 xv1 h kc ks Q → XW p l e R s m args below meth c (MQ below (va_Qv Q (XPost D A) A) args s KC KS A) D A KC KS 4 h kc ks [(0, .ref a0), (1, .int xv1)] 68 [] := by
  intro a0 xv1 h kc ks hm
  refine xr_iconst (v := 0) C dX12_finish_68 rfl ?_
  exact k_X12_finish_L69 C hr hlk hnm hR a0 xv1 0 _ _ _ hm
set_option maxRecDepth 100000 in
set_option maxHeartbeats 4000000 in
theorem c_X12_finish {l : Launch} {D : va_G} {E : Ev} (a0 : Nat) (xp1 : Int32) (h : Hp) (kc ks : Nat) {Q : Hp → Prop} (hm : m_X12_finish E a0 xp1 h kc ks Q) : XMet l yX12_finish cX12_finish 4 none 3 77 kc ks D E h [.ref a0, .int xp1] (fun A => va_Qv Q (XPost D A) A) := by
  refine xm_of (lv0 := [(0, .ref a0), (1, .int xp1)]) (by decide) (Nat.le_of_ble_eq_true rfl) rfl RX12 rfl (fun p e s m args below meth c A R hRm C hr hlk hnm => ?_)
  have hR : R.frames = 3 ∧ R.locals = 77 := by rw [hRm]; exact ⟨rfl, rfl⟩
  refine xr_aload_n (r := (some a0)) C dX12_finish_0 0 rfl ?_
  refine xr_ldc2 (v := 8) C dX12_finish_1 wd_755 ?_
  obtain ⟨⟨fs1, e1⟩, hm⟩ := hm
  refine xr_cVv (n := 1) (As := [.long 8]) (st := []) C (c_X12_begin a0 8 h 0 0 hm) e1 rfl wd_751 wd_753 wd_754 wd_712 wd_752 (by decide +kernel) rfl (by rw [hR.1, hR.2]; decide) (Nat.zero_add _).symm (Nat.zero_add _).symm rfl (Nat.le_of_ble_eq_true rfl) dX12_finish_4 (fun h3 hn => ?_)
  clear hm
  have hm := hn
  clear hn
  refine xr_aload_n (r := (some a0)) C dX12_finish_7 0 rfl ?_
  refine xr_iload_n C dX12_finish_8 1 rfl ?_
  refine xr_i2l (v := xp1.toInt64) C dX12_finish_9 rfl ?_
  obtain ⟨⟨fs4, e4⟩, hm⟩ := hm
  refine xr_cVv (n := 1) (As := [.long xp1.toInt64]) (st := []) C (c_X12_more a0 xp1.toInt64 h3 0 0 hm) e4 rfl wd_747 wd_749 wd_750 wd_712 wd_748 (by decide +kernel) rfl (by rw [hR.1, hR.2]; decide) (Nat.zero_add _).symm (Nat.zero_add _).symm rfl (Nat.le_of_ble_eq_true rfl) dX12_finish_10 (fun h6 hn => ?_)
  clear hm
  have hm := hn
  clear hn
  refine xr_aload_n (r := (some a0)) C dX12_finish_13 0 rfl ?_
  refine xr_aload_n (r := (some a0)) C dX12_finish_14 0 rfl ?_
  obtain ⟨fs7, r8, e7, f7, hm⟩ := hm
  refine xr_get (ci := 13) C 27 e7 f7 rfl inX12 (by decide) wd_675 dX12_finish_15 ?_
  refine xr_iload_n C dX12_finish_18 1 rfl ?_
  obtain ⟨a10, rfl, hm⟩ := hm
  obtain ⟨N9, f9, x11, e9, b9, v9, hm⟩ := hm
  refine xr_iald C 0 rfl e9 b9 v9 dX12_finish_19 ?_
  refine xr_i2l (v := x11.toInt64) C dX12_finish_20 rfl ?_
  obtain ⟨⟨fs12, e12⟩, hm⟩ := hm
  refine xr_cVv (n := 1) (As := [.long x11.toInt64]) (st := []) C (c_X12_more a0 x11.toInt64 h6 0 0 hm) e12 rfl wd_747 wd_749 wd_750 wd_712 wd_748 (by decide +kernel) rfl (by rw [hR.1, hR.2]; decide) (Nat.zero_add _).symm (Nat.zero_add _).symm rfl (Nat.le_of_ble_eq_true rfl) dX12_finish_21 (fun h14 hn => ?_)
  clear hm
  have hm := hn
  clear hn
  refine xr_aload_n (r := (some a0)) C dX12_finish_24 0 rfl ?_
  refine xr_aload_n (r := (some a0)) C dX12_finish_25 0 rfl ?_
  obtain ⟨fs15, r16, e15, f15, hm⟩ := hm
  refine xr_get (ci := 13) C 17 e15 f15 rfl inX12 (by decide) wd_667 dX12_finish_26 ?_
  refine xr_bipush (v := 10) C dX12_finish_29 rfl ?_
  obtain ⟨a18, rfl, hm⟩ := hm
  obtain ⟨N17, f17, y19, e17, b17, v17, hm⟩ := hm
  refine xr_lald C 1 rfl e17 b17 v17 dX12_finish_31 ?_
  obtain ⟨⟨fs20, e20⟩, hm⟩ := hm
  refine xr_cVv (n := 1) (As := [.long y19]) (st := []) C (c_X12_more a0 y19 h14 0 0 hm) e20 rfl wd_747 wd_749 wd_750 wd_712 wd_748 (by decide +kernel) rfl (by rw [hR.1, hR.2]; decide) (Nat.zero_add _).symm (Nat.zero_add _).symm rfl (Nat.le_of_ble_eq_true rfl) dX12_finish_32 (fun h22 hn => ?_)
  clear hm
  have hm := hn
  clear hn
  refine xr_aload_n (r := (some a0)) C dX12_finish_35 0 rfl ?_
  obtain ⟨fs23, r24, e23, f23, hm⟩ := hm
  refine xr_get (ci := 13) C 17 e23 f23 rfl inX12 (by decide) wd_667 dX12_finish_36 ?_
  refine xr_bipush (v := 10) C dX12_finish_39 rfl ?_
  obtain ⟨a26, rfl, hm⟩ := hm
  obtain ⟨N25, f25, y27, e25, b25, v25, hm⟩ := hm
  refine xr_lald C 1 rfl e25 b25 v25 dX12_finish_41 ?_
  refine xr_lconst (v := 1) C dX12_finish_42 rfl ?_
  refine xr_lcmp C dX12_finish_43 ?_
  refine xr_if_ne (tgt := 68) C dX12_finish_44 (by decide) (fun q28 => ?_) (fun q28 => ?_)
  · replace hm := hm.2 q28
    exact k_X12_finish_L68 C hr hlk hnm hR a0 xp1 _ _ _ hm
  · replace hm := hm.1 q28
    refine xr_aload_n (r := (some a0)) C dX12_finish_47 0 rfl ?_
    refine xr_iconst (v := 2) C dX12_finish_48 rfl ?_
    refine xr_iload_n C dX12_finish_49 1 rfl ?_
    refine xr_i2l (v := xp1.toInt64) C dX12_finish_50 rfl ?_
    refine xr_aload_n (r := (some a0)) C dX12_finish_51 0 rfl ?_
    obtain ⟨fs29, r30, e29, f29, hm⟩ := hm
    refine xr_get (ci := 13) C 17 e29 f29 rfl inX12 (by decide) wd_667 dX12_finish_52 ?_
    refine xr_bipush (v := 8) C dX12_finish_55 rfl ?_
    obtain ⟨a32, rfl, hm⟩ := hm
    obtain ⟨N31, f31, y33, e31, b31, v31, hm⟩ := hm
    refine xr_lald C 1 rfl e31 b31 v31 dX12_finish_57 ?_
    obtain ⟨⟨fs34, e34⟩, hm⟩ := hm
    refine xr_cVi (n := 3) (As := [.int 2, .long xp1.toInt64, .long y33]) (st := []) C (c_X12_isGood a0 2 xp1.toInt64 y33 h22 0 0 hm) e34 rfl wd_756 wd_758 wd_759 wd_712 wd_757 (by decide +kernel) rfl (by rw [hR.1, hR.2]; decide) (Nat.zero_add _).symm (Nat.zero_add _).symm rfl (Nat.le_of_ble_eq_true rfl) dX12_finish_58 (fun x35 h36 hn => ?_)
    clear hm
    have hm := hn
    clear hn
    refine xr_if_eq (tgt := 68) C dX12_finish_61 (by decide) (fun q37 => ?_) (fun q37 => ?_)
    · replace hm := hm.1 q37
      exact k_X12_finish_L68 C hr hlk hnm hR a0 xp1 _ _ _ hm
    · replace hm := hm.2 q37
      refine xr_iconst (v := 1) C dX12_finish_64 rfl ?_
      refine xr_goto (tgt := 69) C dX12_finish_65 (by decide) ?_
      exact k_X12_finish_L69 C hr hlk hnm hR a0 xp1 1 _ _ _ hm
