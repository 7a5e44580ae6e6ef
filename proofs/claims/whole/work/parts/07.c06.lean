set_option maxRecDepth 100000 in
set_option maxHeartbeats 4000000 in
theorem c_X12_isIn {l : Launch} {D : va_G} {E : Ev} (yp0 : Int64) (yp2 : Int64) (yp4 : Int64) (h : Hp) (kc ks : Nat) {Q : Int32 → Hp → Prop} (hm : m_X12_isIn E yp0 yp2 yp4 h kc ks Q) : XMet l yX12_isIn cX12_isIn 6 (some .boolean) 0 0 kc ks D E h [.long yp0, .long yp2, .long yp4] (fun A => va_Qi Q (XPost D A) A) := by
  refine xm_of (lv0 := [(0, .long yp0), (2, .long yp2), (4, .long yp4)]) (by decide) (Nat.le_of_ble_eq_true rfl) rfl RX12 rfl (fun p e s m args below meth c A R hRm C hr hlk hnm => ?_)
  have hR : R.frames = 0 ∧ R.locals = 0 := by rw [hRm]; exact ⟨rfl, rfl⟩
  refine xr_lload_n C dX12_isIn_0 0 rfl ?_
  refine xr_lload_n C dX12_isIn_1 1 rfl ?_
  refine xr_lcmp C dX12_isIn_2 ?_
  refine xr_if_lt (tgt := 17) C dX12_isIn_3 (by decide) (fun q1 => ?_) (fun q1 => ?_)
  · replace hm := hm.1 q1
    refine xr_iconst (v := 0) C dX12_isIn_17 rfl ?_
    exact xr_zreturn C hr hlk (Or.inl rfl) hm dX12_isIn_18
  · replace hm := hm.2 q1
    refine xr_lload_n C dX12_isIn_6 0 rfl ?_
    refine xr_lload C dX12_isIn_7 2 rfl ?_
    refine xr_lcmp C dX12_isIn_9 ?_
    refine xr_if_gt (tgt := 17) C dX12_isIn_10 (by decide) (fun q2 => ?_) (fun q2 => ?_)
    · replace hm := hm.1 q2
      refine xr_iconst (v := 0) C dX12_isIn_17 rfl ?_
      exact xr_zreturn C hr hlk (Or.inl rfl) hm dX12_isIn_18
    · replace hm := hm.2 q2
      refine xr_iconst (v := 1) C dX12_isIn_13 rfl ?_
      refine xr_goto (tgt := 18) C dX12_isIn_14 (by decide) ?_
      exact xr_zreturn C hr hlk (Or.inr rfl) hm dX12_isIn_18
set_option maxRecDepth 100000 in
set_option maxHeartbeats 4000000 in
theorem c_X12_begin {l : Launch} {D : va_G} {E : Ev} (a0 : Nat) (yp1 : Int64) (h : Hp) (kc ks : Nat) {Q : Hp → Prop} (hm : m_X12_begin E a0 yp1 h kc ks Q) : XMet l yX12_begin cX12_begin 3 none 0 0 kc ks D E h [.ref a0, .long yp1] (fun A => va_Qv Q (XPost D A) A) := by
  refine xm_of (lv0 := [(0, .ref a0), (1, .long yp1)]) (by decide) (Nat.le_of_ble_eq_true rfl) rfl RX12 rfl (fun p e s m args below meth c A R hRm C hr hlk hnm => ?_)
  have hR : R.frames = 0 ∧ R.locals = 0 := by rw [hRm]; exact ⟨rfl, rfl⟩
  refine xr_aload_n (r := (some a0)) C dX12_begin_0 0 rfl ?_
  obtain ⟨fs1, r2, e1, f1, hm⟩ := hm
  refine xr_get (ci := 13) C 4 e1 f1 rfl inX12 (by decide) wd_659 dX12_begin_1 ?_
  refine xr_iconst (v := 0) C dX12_begin_4 rfl ?_
  refine xr_lload_n C dX12_begin_5 1 rfl ?_
  obtain ⟨a4, rfl, hm⟩ := hm
  obtain ⟨N3, f3, e3, b3, h5, v3, hm⟩ := hm
  refine xr_last C 1 rfl e3 b3 v3 dX12_begin_6 ?_
  refine xr_aload_n (r := (some a0)) C dX12_begin_7 0 rfl ?_
  refine xr_iconst (v := 1) C dX12_begin_8 rfl ?_
  obtain ⟨fs6, e6, f6, h7, eh6, hm⟩ := hm
  refine xr_put (ci := 13) (v := .int 1) C 5 .int tyX12 tyX12_ok nmX12 e6 f6 rfl inX12 (by decide) wd_706 rfl (by decide) rfl rfl eh6 dX12_begin_9 ?_
  exact xr_vreturn C hr hlk hm dX12_begin_12
set_option maxRecDepth 100000 in
set_option maxHeartbeats 4000000 in
theorem c_X12_more {l : Launch} {D : va_G} {E : Ev} (a0 : Nat) (yp1 : Int64) (h : Hp) (kc ks : Nat) {Q : Hp → Prop} (hm : m_X12_more E a0 yp1 h kc ks Q) : XMet l yX12_more cX12_more 3 none 0 0 kc ks D E h [.ref a0, .long yp1] (fun A => va_Qv Q (XPost D A) A) := by
  refine xm_of (lv0 := [(0, .ref a0), (1, .long yp1)]) (by decide) (Nat.le_of_ble_eq_true rfl) rfl RX12 rfl (fun p e s m args below meth c A R hRm C hr hlk hnm => ?_)
  have hR : R.frames = 0 ∧ R.locals = 0 := by rw [hRm]; exact ⟨rfl, rfl⟩
  refine xr_aload_n (r := (some a0)) C dX12_more_0 0 rfl ?_
  obtain ⟨fs1, r2, e1, f1, hm⟩ := hm
  refine xr_get (ci := 13) C 4 e1 f1 rfl inX12 (by decide) wd_659 dX12_more_1 ?_
  refine xr_aload_n (r := (some a0)) C dX12_more_4 0 rfl ?_
  obtain ⟨fs3, x4, e3, f3, hm⟩ := hm
  refine xr_get (ci := 13) C 5 e3 f3 rfl inX12 (by decide) wd_706 dX12_more_5 ?_
  refine xr_lload_n C dX12_more_8 1 rfl ?_
  obtain ⟨a6, rfl, hm⟩ := hm
  obtain ⟨N5, f5, e5, b5, h7, v5, hm⟩ := hm
  refine xr_last C 1 rfl e5 b5 v5 dX12_more_9 ?_
  refine xr_aload_n (r := (some a0)) C dX12_more_10 0 rfl ?_
  refine xr_dup C dX12_more_11 rfl ?_
  obtain ⟨fs8, x9, e8, f8, hm⟩ := hm
  refine xr_get (ci := 13) C 5 e8 f8 rfl inX12 (by decide) wd_706 dX12_more_12 ?_
  refine xr_iconst (v := 1) C dX12_more_15 rfl ?_
  refine xr_iadd C dX12_more_16 ?_
  obtain ⟨fs10, e10, f10, h11, eh10, hm⟩ := hm
  refine xr_put (ci := 13) (v := .int (x9 + 1)) C 5 .int tyX12 tyX12_ok nmX12 e10 f10 rfl inX12 (by decide) wd_706 rfl (by decide) rfl rfl eh10 dX12_more_17 ?_
  exact xr_vreturn C hr hlk hm dX12_more_20
set_option maxRecDepth 100000 in
set_option maxHeartbeats 4000000 in
theorem k_X12_find_L101 {p : Program} {l : Launch} {e : Env} {R : Room} {s : State} {m : MethodId} {args : Array Value} {below : List Frame} {meth : Method} {c : Code} {D : va_G} {E : Ev} {A : Nat → Prop} {KC KS : Nat} (C : XC p R s m args c D E A 8 RX12 cX12_find KC KS) (hr : meth.sig.returnType = (some .int)) (hlk : meth.locks = false) (hnm : meth.name = "find") (hR : R.frames = 0 ∧ R.locals = 0) {K13 : Nat → Int32 → Int32 → Hp → Nat → Nat → Prop} {K58 : Nat → Int32 → Int32 → Int32 → Int32 → Hp → Nat → Nat → Prop} {Q : Int32 → Hp → Prop} (hK13 : ∀ (a0 : Nat) (xv4 : Int32) (xv5 : Int32) (h : Hp) (kc ks : Nat), K13 a0 xv4 xv5 h kc ks → XW p l e R s m args below meth c (MQ below (va_Qi Q (XPost D A) A) args s KC KS A) D A KC KS 8 h kc ks [(0, .ref a0), (4, .int xv4), (5, .int xv5)] 13 []) (hK58 : ∀ (a0 : Nat) (xv4 : Int32) (xv5 : Int32) (xv6 : Int32) (xv7 : Int32) (h : Hp) (kc ks : Nat), K58 a0 xv4 xv5 xv6 xv7 h kc ks → XW p l e R s m args below meth c (MQ below (va_Qi Q (XPost D A) A) args s KC KS A) D A KC KS 8 h kc ks [(0, .ref a0), (4, .int xv4), (5, .int xv5), (6, .int xv6), (7, .int xv7)] 58 []) : ∀ (a0 : Nat) (xv4 : Int32) (xv5 : Int32) (xv7 : Int32) (s0 : Int32) (h : Hp) (kc ks : Nat), m_X12_find_L101 E a0 xv4 xv5 xv7 s0 h kc ks K13 K58 Q → XW p l e R s m args below meth c (MQ below (va_Qi Q (XPost D A) A) args s KC KS A) D A KC KS 8 h kc ks [(0, .ref a0), (4, .int xv4), (5, .int xv5), (7, .int xv7)] 101 [.int s0] := by
  intro a0 xv4 xv5 xv7 s0 h kc ks hm
  refine xr_istore (lv' := [(6, .int s0), (0, .ref a0), (4, .int xv4), (5, .int xv5), (7, .int xv7)]) C dX12_find_101 (by decide) rfl ?_
  refine xr_iinc (j := 4) (v := xv7 + 1) (lv' := [(7, .int (xv7 + 1)), (6, .int s0), (0, .ref a0), (4, .int xv4), (5, .int xv5)]) C dX12_find_103 rfl rfl (by decide) rfl ?_
  refine xr_goto (tgt := 58) C dX12_find_106 (by decide) ?_
  refine xr_sub [2, 3, 4, 1, 0] rfl ?_
  exact hK58 a0 xv4 xv5 s0 (xv7 + 1) _ _ _ hm
set_option maxRecDepth 100000 in
set_option maxHeartbeats 4000000 in
theorem k_X12_find_L109 {p : Program} {l : Launch} {e : Env} {R : Room} {s : State} {m : MethodId} {args : Array Value} {below : List Frame} {meth : Method} {c : Code} {D : va_G} {E : Ev} {A : Nat → Prop} {KC KS : Nat} (C : XC p R s m args c D E A 8 RX12 cX12_find KC KS) (hr : meth.sig.returnType = (some .int)) (hlk : meth.locks = false) (hnm : meth.name = "find") (hR : R.frames = 0 ∧ R.locals = 0) {K13 : Nat → Int32 → Int32 → Hp → Nat → Nat → Prop} {Q : Int32 → Hp → Prop} (hK13 : ∀ (a0 : Nat) (xv4 : Int32) (xv5 : Int32) (h : Hp) (kc ks : Nat), K13 a0 xv4 xv5 h kc ks → XW p l e R s m args below meth c (MQ below (va_Qi Q (XPost D A) A) args s KC KS A) D A KC KS 8 h kc ks [(0, .ref a0), (4, .int xv4), (5, .int xv5)] 13 []) : ∀ (a0 : Nat) (xv4 : Int32) (xv5 : Int32) (xv6 : Int32) (h : Hp) (kc ks : Nat), m_X12_find_L109 E a0 xv4 xv5 xv6 h kc ks K13 Q → XW p l e R s m args below meth c (MQ below (va_Qi Q (XPost D A) A) args s KC KS A) D A KC KS 8 h kc ks [(0, .ref a0), (4, .int xv4), (5, .int xv5), (6, .int xv6)] 109 [] := by
  intro a0 xv4 xv5 xv6 h kc ks hm
  refine xr_iload C dX12_find_109 3 rfl ?_
  refine xr_if_eq (tgt := 119) C dX12_find_111 (by decide) (fun q35 => ?_) (fun q35 => ?_)
  · replace hm := hm.1 q35
    refine xr_iinc (j := 2) (v := xv5 + 1) (lv' := [(5, .int (xv5 + 1)), (0, .ref a0), (4, .int xv4), (6, .int xv6)]) C dX12_find_119 rfl rfl (by decide) rfl ?_
    refine xr_goto (tgt := 13) C dX12_find_122 (by decide) ?_
    refine xr_sub [1, 2, 0] rfl ?_
    exact hK13 a0 xv4 (xv5 + 1) _ _ _ hm
  · replace hm := hm.2 q35
    refine xr_iload C dX12_find_114 2 rfl ?_
    refine xr_iconst (v := 1) C dX12_find_116 rfl ?_
    refine xr_iadd C dX12_find_117 ?_
    exact xr_ireturn C hr hlk hm dX12_find_118
set_option maxRecDepth 100000 in
set_option maxHeartbeats 4000000 in
theorem k_X12_find_L58 {p : Program} {l : Launch} {e : Env} {R : Room} {s : State} {m : MethodId} {args : Array Value} {below : List Frame} {meth : Method} {c : Code} {D : va_G} {E : Ev} {A : Nat → Prop} {KC KS : Nat} (C : XC p R s m args c D E A 8 RX12 cX12_find KC KS) (hr : meth.sig.returnType = (some .int)) (hlk : meth.locks = false) (hnm : meth.name = "find") (hR : R.frames = 0 ∧ R.locals = 0) {K13 : Nat → Int32 → Int32 → Hp → Nat → Nat → Prop} {Q : Int32 → Hp → Prop} (hK13 : ∀ (a0 : Nat) (xv4 : Int32) (xv5 : Int32) (h : Hp) (kc ks : Nat), K13 a0 xv4 xv5 h kc ks → XW p l e R s m args below meth c (MQ below (va_Qi Q (XPost D A) A) args s KC KS A) D A KC KS 8 h kc ks [(0, .ref a0), (4, .int xv4), (5, .int xv5)] 13 []) : ∀ (n : Nat) (a0 : Nat) (xv4 : Int32) (xv5 : Int32) (xv6 : Int32) (xv7 : Int32) (h : Hp) (kc ks : Nat), m_X12_find_L58 n E a0 xv4 xv5 xv6 xv7 h kc ks K13 Q → XW p l e R s m args below meth c (MQ below (va_Qi Q (XPost D A) A) args s KC KS A) D A KC KS 8 h kc ks [(0, .ref a0), (4, .int xv4), (5, .int xv5), (6, .int xv6), (7, .int xv7)] 58 [] := by
  intro n
  induction n with
  | zero => intro a0 xv4 xv5 xv6 xv7 h kc ks hm; exact False.elim hm
  | succ n ih =>
    intro a0 xv4 xv5 xv6 xv7 h kc ks hm
    refine xr_iload C dX12_find_58 4 rfl ?_
    refine xr_aload_n (r := (some a0)) C dX12_find_60 0 rfl ?_
    obtain ⟨fs20, x21, e20, f20, hm⟩ := hm
    refine xr_get (ci := 13) C 5 e20 f20 rfl inX12 (by decide) wd_706 dX12_find_61 ?_
    refine xr_icmp_ge (tgt := 109) C dX12_find_64 (by decide) (fun q22 => ?_) (fun q22 => ?_)
    · replace hm := hm.1 q22
      refine xr_sub [0, 1, 2, 3] rfl ?_
      exact k_X12_find_L109 C hr hlk hnm hR hK13 a0 xv4 xv5 xv6 _ _ _ hm
    · replace hm := hm.2 q22
      refine xr_iload C dX12_find_67 3 rfl ?_
      refine xr_if_eq (tgt := 109) C dX12_find_69 (by decide) (fun q23 => ?_) (fun q23 => ?_)
      · replace hm := hm.1 q23
        refine xr_sub [0, 1, 2, 3] rfl ?_
        exact k_X12_find_L109 C hr hlk hnm hR hK13 a0 xv4 xv5 xv6 _ _ _ hm
      · replace hm := hm.2 q23
        refine xr_aload_n (r := (some a0)) C dX12_find_72 0 rfl ?_
        obtain ⟨fs24, r25, e24, f24, hm⟩ := hm
        refine xr_get (ci := 13) C 3 e24 f24 rfl inX12 (by decide) wd_658 dX12_find_73 ?_
        refine xr_bipush (v := 12) C dX12_find_76 rfl ?_
        refine xr_iload C dX12_find_78 2 rfl ?_
        refine xr_imul C dX12_find_80 ?_
        refine xr_iload C dX12_find_81 4 rfl ?_
        refine xr_iadd C dX12_find_83 ?_
        obtain ⟨a27, rfl, hm⟩ := hm
        obtain ⟨N26, f26, y28, e26, b26, v26, hm⟩ := hm
        refine xr_lald C 1 rfl e26 b26 v26 dX12_find_84 ?_
        refine xr_aload_n (r := (some a0)) C dX12_find_85 0 rfl ?_
        obtain ⟨fs29, r30, e29, f29, hm⟩ := hm
        refine xr_get (ci := 13) C 4 e29 f29 rfl inX12 (by decide) wd_659 dX12_find_86 ?_
        refine xr_iload C dX12_find_89 4 rfl ?_
        obtain ⟨a32, rfl, hm⟩ := hm
        obtain ⟨N31, f31, y33, e31, b31, v31, hm⟩ := hm
        refine xr_lald C 1 rfl e31 b31 v31 dX12_find_91 ?_
        refine xr_lcmp C dX12_find_92 ?_
        refine xr_if_ne (tgt := 100) C dX12_find_93 (by decide) (fun q34 => ?_) (fun q34 => ?_)
        · replace hm := hm.2 q34
          refine xr_iconst (v := 0) C dX12_find_100 rfl ?_
          refine xr_sub [0, 1, 2, 4] rfl ?_
          exact k_X12_find_L101 C hr hlk hnm hR hK13 ih a0 xv4 xv5 xv7 0 _ _ _ hm
        · replace hm := hm.1 q34
          refine xr_iconst (v := 1) C dX12_find_96 rfl ?_
          refine xr_goto (tgt := 101) C dX12_find_97 (by decide) ?_
          refine xr_sub [0, 1, 2, 4] rfl ?_
          exact k_X12_find_L101 C hr hlk hnm hR hK13 ih a0 xv4 xv5 xv7 1 _ _ _ hm
set_option maxRecDepth 100000 in
set_option maxHeartbeats 4000000 in
theorem k_X12_find_L53 {p : Program} {l : Launch} {e : Env} {R : Room} {s : State} {m : MethodId} {args : Array Value} {below : List Frame} {meth : Method} {c : Code} {D : va_G} {E : Ev} {A : Nat → Prop} {KC KS : Nat} (C : XC p R s m args c D E A 8 RX12 cX12_find KC KS) (hr : meth.sig.returnType = (some .int)) (hlk : meth.locks = false) (hnm : meth.name = "find") (hR : R.frames = 0 ∧ R.locals = 0) {K13 : Nat → Int32 → Int32 → Hp → Nat → Nat → Prop} {Q : Int32 → Hp → Prop} (hK13 : ∀ (a0 : Nat) (xv4 : Int32) (xv5 : Int32) (h : Hp) (kc ks : Nat), K13 a0 xv4 xv5 h kc ks → XW p l e R s m args below meth c (MQ below (va_Qi Q (XPost D A) A) args s KC KS A) D A KC KS 8 h kc ks [(0, .ref a0), (4, .int xv4), (5, .int xv5)] 13 []) : ∀ (a0 : Nat) (xv4 : Int32) (xv5 : Int32) (s0 : Int32) (h : Hp) (kc ks : Nat), m_X12_find_L53 E a0 xv4 xv5 s0 h kc ks K13 Q → XW p l e R s m args below meth c (MQ below (va_Qi Q (XPost D A) A) args s KC KS A) D A KC KS 8 h kc ks [(0, .ref a0), (4, .int xv4), (5, .int xv5)] 53 [.int s0] := by
  intro a0 xv4 xv5 s0 h kc ks hm
  refine xr_istore (lv' := [(6, .int s0), (0, .ref a0), (4, .int xv4), (5, .int xv5)]) C dX12_find_53 (by decide) rfl ?_
  refine xr_iconst (v := 0) C dX12_find_55 rfl ?_
  refine xr_istore (lv' := [(7, .int 0), (6, .int s0), (0, .ref a0), (4, .int xv4), (5, .int xv5)]) C dX12_find_56 (by decide) rfl ?_
  obtain ⟨n19, hm⟩ := hm
  refine xr_sub [2, 3, 4, 1, 0] rfl ?_
  exact k_X12_find_L58 C hr hlk hnm hR hK13 n19 a0 xv4 xv5 s0 0 _ _ _ hm
set_option maxRecDepth 100000 in
set_option maxHeartbeats 4000000 in
theorem k_X12_find_L52 {p : Program} {l : Launch} {e : Env} {R : Room} {s : State} {m : MethodId} {args : Array Value} {below : List Frame} {meth : Method} {c : Code} {D : va_G} {E : Ev} {A : Nat → Prop} {KC KS : Nat} (C : XC p R s m args c D E A 8 RX12 cX12_find KC KS) (hr : meth.sig.returnType = (some .int)) (hlk : meth.locks = false) (hnm : meth.name = "find") (hR : R.frames = 0 ∧ R.locals = 0) {K13 : Nat → Int32 → Int32 → Hp → Nat → Nat → Prop} {Q : Int32 → Hp → Prop} (hK13 : ∀ (a0 : Nat) (xv4 : Int32) (xv5 : Int32) (h : Hp) (kc ks : Nat), K13 a0 xv4 xv5 h kc ks → XW p l e R s m args below meth c (MQ below (va_Qi Q (XPost D A) A) args s KC KS A) D A KC KS 8 h kc ks [(0, .ref a0), (4, .int xv4), (5, .int xv5)] 13 []) : ∀ (a0 : Nat) (xv4 : Int32) (xv5 : Int32) (h : Hp) (kc ks : Nat), m_X12_find_L52 E a0 xv4 xv5 h kc ks K13 Q → XW p l e R s m args below meth c (MQ below (va_Qi Q (XPost D A) A) args s KC KS A) D A KC KS 8 h kc ks [(0, .ref a0), (4, .int xv4), (5, .int xv5)] 52 [] := by
  intro a0 xv4 xv5 h kc ks hm
  refine xr_iconst (v := 0) C dX12_find_52 rfl ?_
  exact k_X12_find_L53 C hr hlk hnm hR hK13 a0 xv4 xv5 0 _ _ _ hm
set_option maxRecDepth 100000 in
set_option maxHeartbeats 4000000 in
theorem k_X12_find_L13 {p : Program} {l : Launch} {e : Env} {R : Room} {s : State} {m : MethodId} {args : Array Value} {below : List Frame} {meth : Method} {c : Code} {D : va_G} {E : Ev} {A : Nat → Prop} {KC KS : Nat} (C : XC p R s m args c D E A 8 RX12 cX12_find KC KS) (hr : meth.sig.returnType = (some .int)) (hlk : meth.locks = false) (hnm : meth.name = "find") (hR : R.frames = 0 ∧ R.locals = 0) {Q : Int32 → Hp → Prop} : ∀ (n : Nat) (a0 : Nat) (xv4 : Int32) (xv5 : Int32) (h : Hp) (kc ks : Nat), m_X12_find_L13 n E a0 xv4 xv5 h kc ks Q → XW p l e R s m args below meth c (MQ below (va_Qi Q (XPost D A) A) args s KC KS A) D A KC KS 8 h kc ks [(0, .ref a0), (4, .int xv4), (5, .int xv5)] 13 [] := by
  intro n
  induction n with
  | zero => intro a0 xv4 xv5 h kc ks hm; exact False.elim hm
  | succ n ih =>
    intro a0 xv4 xv5 h kc ks hm
    refine xr_iload C dX12_find_13 2 rfl ?_
    refine xr_aload_n (r := (some a0)) C dX12_find_15 0 rfl ?_
    obtain ⟨fs2, x3, e2, f2, hm⟩ := hm
    refine xr_get (ci := 13) C 0 e2 f2 rfl inX12 (by decide) wd_707 dX12_find_16 ?_
    refine xr_icmp_ge (tgt := 125) C dX12_find_19 (by decide) (fun q4 => ?_) (fun q4 => ?_)
    · replace hm := hm.1 q4
      refine xr_iconst (v := 0) C dX12_find_125 rfl ?_
      exact xr_ireturn C hr hlk hm dX12_find_126
    · replace hm := hm.2 q4
      refine xr_aload_n (r := (some a0)) C dX12_find_22 0 rfl ?_
      obtain ⟨fs5, r6, e5, f5, hm⟩ := hm
      refine xr_get (ci := 13) C 1 e5 f5 rfl inX12 (by decide) wd_655 dX12_find_23 ?_
      refine xr_iload C dX12_find_26 2 rfl ?_
      obtain ⟨a8, rfl, hm⟩ := hm
      obtain ⟨N7, f7, x9, e7, b7, v7, hm⟩ := hm
      refine xr_iald C 0 rfl e7 b7 v7 dX12_find_28 ?_
      refine xr_iload C dX12_find_29 1 rfl ?_
      refine xr_icmp_ne (tgt := 52) C dX12_find_31 (by decide) (fun q10 => ?_) (fun q10 => ?_)
      · replace hm := hm.2 q10
        exact k_X12_find_L52 C hr hlk hnm hR ih a0 xv4 xv5 _ _ _ hm
      · replace hm := hm.1 q10
        refine xr_aload_n (r := (some a0)) C dX12_find_34 0 rfl ?_
        obtain ⟨fs11, r12, e11, f11, hm⟩ := hm
        refine xr_get (ci := 13) C 2 e11 f11 rfl inX12 (by decide) wd_656 dX12_find_35 ?_
        refine xr_iload C dX12_find_38 2 rfl ?_
        obtain ⟨a14, rfl, hm⟩ := hm
        obtain ⟨N13, f13, x15, e13, b13, v13, hm⟩ := hm
        refine xr_iald C 0 rfl e13 b13 v13 dX12_find_40 ?_
        refine xr_aload_n (r := (some a0)) C dX12_find_41 0 rfl ?_
        obtain ⟨fs16, x17, e16, f16, hm⟩ := hm
        refine xr_get (ci := 13) C 5 e16 f16 rfl inX12 (by decide) wd_706 dX12_find_42 ?_
        refine xr_icmp_ne (tgt := 52) C dX12_find_45 (by decide) (fun q18 => ?_) (fun q18 => ?_)
        · replace hm := hm.2 q18
          exact k_X12_find_L52 C hr hlk hnm hR ih a0 xv4 xv5 _ _ _ hm
        · replace hm := hm.1 q18
          refine xr_iconst (v := 1) C dX12_find_48 rfl ?_
          refine xr_goto (tgt := 53) C dX12_find_49 (by decide) ?_
          exact k_X12_find_L53 C hr hlk hnm hR ih a0 xv4 xv5 1 _ _ _ hm
set_option maxRecDepth 100000 in
set_option maxHeartbeats 4000000 in
theorem c_X12_find {l : Launch} {D : va_G} {E : Ev} (a0 : Nat) (xp1 : Int32) (yp2 : Int64) (h : Hp) (kc ks : Nat) {Q : Int32 → Hp → Prop} (hm : m_X12_find E a0 xp1 yp2 h kc ks Q) : XMet l yX12_find cX12_find 8 (some .int) 0 0 kc ks D E h [.ref a0, .int xp1, .long yp2] (fun A => va_Qi Q (XPost D A) A) := by
  refine xm_of (lv0 := [(0, .ref a0), (1, .int xp1), (2, .long yp2)]) (by decide) (Nat.le_of_ble_eq_true rfl) rfl RX12 rfl (fun p e s m args below meth c A R hRm C hr hlk hnm => ?_)
  have hR : R.frames = 0 ∧ R.locals = 0 := by rw [hRm]; exact ⟨rfl, rfl⟩
  refine xr_sipush (v := 256) C dX12_find_0 rfl ?_
  refine xr_iload_n C dX12_find_3 1 rfl ?_
  refine xr_imul C dX12_find_4 ?_
  refine xr_lload_n C dX12_find_5 2 rfl ?_
  refine xr_l2i (v := yp2.toInt32) C dX12_find_6 rfl ?_
  refine xr_iadd C dX12_find_7 ?_
  refine xr_istore (lv' := [(4, .int ((256 * xp1) + yp2.toInt32)), (0, .ref a0), (1, .int xp1), (2, .long yp2)]) C dX12_find_8 (by decide) rfl ?_
  refine xr_iconst (v := 0) C dX12_find_10 rfl ?_
  refine xr_istore (lv' := [(5, .int 0), (4, .int ((256 * xp1) + yp2.toInt32)), (0, .ref a0), (1, .int xp1), (2, .long yp2)]) C dX12_find_11 (by decide) rfl ?_
  obtain ⟨n1, hm⟩ := hm
  refine xr_sub [2, 1, 0] rfl ?_
  exact k_X12_find_L13 C hr hlk hnm hR n1 a0 ((256 * xp1) + yp2.toInt32) 0 _ _ _ hm
set_option maxRecDepth 100000 in
set_option maxHeartbeats 4000000 in
theorem k_X12_seal_L49 {p : Program} {l : Launch} {e : Env} {R : Room} {s : State} {m : MethodId} {args : Array Value} {below : List Frame} {meth : Method} {c : Code} {D : va_G} {E : Ev} {A : Nat → Prop} {KC KS : Nat} (C : XC p R s m args c D E A 6 RX12 cX12_seal KC KS) (hr : meth.sig.returnType = (some .int)) (hlk : meth.locks = false) (hnm : meth.name = "seal") (hR : R.frames = 1 ∧ R.locals = 27) {Q : Int32 → Hp → Prop} : ∀ (n : Nat) (a0 : Nat) (xv5 : Int32) (h : Hp) (kc ks : Nat), m_X12_seal_L49 n E a0 xv5 h kc ks Q → XW p l e R s m args below meth c (MQ below (va_Qi Q (XPost D A) A) args s KC KS A) D A KC KS 6 h kc ks [(0, .ref a0), (5, .int xv5)] 49 [] := by
  intro n
  induction n with
  | zero => intro a0 xv5 h kc ks hm; exact False.elim hm
  | succ n ih =>
    intro a0 xv5 h kc ks hm
    refine xr_iload C dX12_seal_49 1 rfl ?_
    refine xr_aload_n (r := (some a0)) C dX12_seal_51 0 rfl ?_
    obtain ⟨fs22, x23, e22, f22, hm⟩ := hm
    refine xr_get (ci := 13) C 5 e22 f22 rfl inX12 (by decide) wd_706 dX12_seal_52 ?_
    refine xr_icmp_ge (tgt := 86) C dX12_seal_55 (by decide) (fun q24 => ?_) (fun q24 => ?_)
    · replace hm := hm.1 q24
      refine xr_aload_n (r := (some a0)) C dX12_seal_86 0 rfl ?_
      refine xr_dup C dX12_seal_87 rfl ?_
      obtain ⟨fs25, x26, e25, f25, hm⟩ := hm
      refine xr_get (ci := 13) C 0 e25 f25 rfl inX12 (by decide) wd_707 dX12_seal_88 ?_
      refine xr_iconst (v := 1) C dX12_seal_91 rfl ?_
      refine xr_iadd C dX12_seal_92 ?_
      obtain ⟨fs27, e27, f27, h28, eh27, hm⟩ := hm
      refine xr_put (ci := 13) (v := .int (x26 + 1)) C 0 .int tyX12 tyX12_ok nmX12 e27 f27 rfl inX12 (by decide) wd_707 rfl (by decide) rfl rfl eh27 dX12_seal_93 ?_
      refine xr_aload_n (r := (some a0)) C dX12_seal_96 0 rfl ?_
      obtain ⟨fs29, x30, e29, f29, hm⟩ := hm
      refine xr_get (ci := 13) C 0 e29 f29 rfl inX12 (by decide) wd_707 dX12_seal_97 ?_
      exact xr_ireturn C hr hlk hm dX12_seal_100
    · replace hm := hm.2 q24
      refine xr_aload_n (r := (some a0)) C dX12_seal_58 0 rfl ?_
      obtain ⟨fs31, r32, e31, f31, hm⟩ := hm
      refine xr_get (ci := 13) C 3 e31 f31 rfl inX12 (by decide) wd_658 dX12_seal_59 ?_
      refine xr_bipush (v := 12) C dX12_seal_62 rfl ?_
      refine xr_aload_n (r := (some a0)) C dX12_seal_64 0 rfl ?_
      obtain ⟨fs33, x34, e33, f33, hm⟩ := hm
      refine xr_get (ci := 13) C 0 e33 f33 rfl inX12 (by decide) wd_707 dX12_seal_65 ?_
      refine xr_imul C dX12_seal_68 ?_
      refine xr_iload C dX12_seal_69 1 rfl ?_
      refine xr_iadd C dX12_seal_71 ?_
      refine xr_aload_n (r := (some a0)) C dX12_seal_72 0 rfl ?_
      obtain ⟨fs35, r36, e35, f35, hm⟩ := hm
      refine xr_get (ci := 13) C 4 e35 f35 rfl inX12 (by decide) wd_659 dX12_seal_73 ?_
      refine xr_iload C dX12_seal_76 1 rfl ?_
      obtain ⟨a38, rfl, hm⟩ := hm
      obtain ⟨N37, f37, y39, e37, b37, v37, hm⟩ := hm
      refine xr_lald C 1 rfl e37 b37 v37 dX12_seal_78 ?_
      obtain ⟨a41, rfl, hm⟩ := hm
      obtain ⟨N40, f40, e40, b40, h42, v40, hm⟩ := hm
      refine xr_last C 1 rfl e40 b40 v40 dX12_seal_79 ?_
      refine xr_iinc (j := 1) (v := xv5 + 1) (lv' := [(5, .int (xv5 + 1)), (0, .ref a0)]) C dX12_seal_80 rfl rfl (by decide) rfl ?_
      refine xr_goto (tgt := 49) C dX12_seal_83 (by decide) ?_
      refine xr_sub [1, 0] rfl ?_
      exact ih a0 (xv5 + 1) _ _ _ hm
set_option maxRecDepth 100000 in
set_option maxHeartbeats 4000000 in
theorem c_X12_seal {l : Launch} {D : va_G} {E : Ev} (a0 : Nat) (xp1 : Int32) (yp2 : Int64) (h : Hp) (kc ks : Nat) {Q : Int32 → Hp → Prop} (hm : m_X12_seal E a0 xp1 yp2 h kc ks Q) : XMet l yX12_seal cX12_seal 6 (some .int) 1 27 kc ks D E h [.ref a0, .int xp1, .long yp2] (fun A => va_Qi Q (XPost D A) A) := by
  refine xm_of (lv0 := [(0, .ref a0), (1, .int xp1), (2, .long yp2)]) (by decide) (Nat.le_of_ble_eq_true rfl) rfl RX12 rfl (fun p e s m args below meth c A R hRm C hr hlk hnm => ?_)
  have hR : R.frames = 1 ∧ R.locals = 27 := by rw [hRm]; exact ⟨rfl, rfl⟩
  refine xr_aload_n (r := (some a0)) C dX12_seal_0 0 rfl ?_
  refine xr_iload_n C dX12_seal_1 1 rfl ?_
  refine xr_lload_n C dX12_seal_2 2 rfl ?_
  obtain ⟨⟨fs1, e1⟩, hm⟩ := hm
  refine xr_cVi (n := 2) (As := [.int xp1, .long yp2]) (st := []) C (c_X12_find a0 xp1 yp2 h 0 0 hm) e1 rfl wd_708 wd_710 wd_711 wd_712 wd_709 (by decide +kernel) rfl (by rw [hR.1, hR.2]; decide) (Nat.zero_add _).symm (Nat.zero_add _).symm rfl (Nat.le_of_ble_eq_true rfl) dX12_seal_3 (fun x2 h3 hn => ?_)
  clear hm
  have hm := hn
  clear hn
  refine xr_istore (lv' := [(4, .int x2), (0, .ref a0), (1, .int xp1), (2, .long yp2)]) C dX12_seal_6 (by decide) rfl ?_
  refine xr_iload C dX12_seal_8 0 rfl ?_
  refine xr_if_le (tgt := 16) C dX12_seal_10 (by decide) (fun q4 => ?_) (fun q4 => ?_)
  · replace hm := hm.1 q4
    refine xr_aload_n (r := (some a0)) C dX12_seal_16 1 rfl ?_
    obtain ⟨fs5, r6, e5, f5, hm⟩ := hm
    refine xr_get (ci := 13) C 1 e5 f5 rfl inX12 (by decide) wd_655 dX12_seal_17 ?_
    refine xr_aload_n (r := (some a0)) C dX12_seal_20 1 rfl ?_
    obtain ⟨fs7, x8, e7, f7, hm⟩ := hm
    refine xr_get (ci := 13) C 0 e7 f7 rfl inX12 (by decide) wd_707 dX12_seal_21 ?_
    refine xr_sipush (v := 256) C dX12_seal_24 rfl ?_
    refine xr_iload_n C dX12_seal_27 2 rfl ?_
    refine xr_imul C dX12_seal_28 ?_
    refine xr_lload_n C dX12_seal_29 3 rfl ?_
    refine xr_l2i (v := yp2.toInt32) C dX12_seal_30 rfl ?_
    refine xr_iadd C dX12_seal_31 ?_
    obtain ⟨a10, rfl, hm⟩ := hm
    obtain ⟨N9, f9, e9, b9, h11, v9, hm⟩ := hm
    refine xr_iast C 0 rfl e9 b9 v9 dX12_seal_32 ?_
    refine xr_aload_n (r := (some a0)) C dX12_seal_33 1 rfl ?_
    obtain ⟨fs12, r13, e12, f12, hm⟩ := hm
    refine xr_get (ci := 13) C 2 e12 f12 rfl inX12 (by decide) wd_656 dX12_seal_34 ?_
    refine xr_aload_n (r := (some a0)) C dX12_seal_37 1 rfl ?_
    obtain ⟨fs14, x15, e14, f14, hm⟩ := hm
    refine xr_get (ci := 13) C 0 e14 f14 rfl inX12 (by decide) wd_707 dX12_seal_38 ?_
    refine xr_aload_n (r := (some a0)) C dX12_seal_41 1 rfl ?_
    obtain ⟨fs16, x17, e16, f16, hm⟩ := hm
    refine xr_get (ci := 13) C 5 e16 f16 rfl inX12 (by decide) wd_706 dX12_seal_42 ?_
    obtain ⟨a19, rfl, hm⟩ := hm
    obtain ⟨N18, f18, e18, b18, h20, v18, hm⟩ := hm
    refine xr_iast C 0 rfl e18 b18 v18 dX12_seal_45 ?_
    refine xr_iconst (v := 0) C dX12_seal_46 rfl ?_
    refine xr_istore (lv' := [(5, .int 0), (4, .int x2), (0, .ref a0), (1, .int xp1), (2, .long yp2)]) C dX12_seal_47 (by decide) rfl ?_
    obtain ⟨n21, hm⟩ := hm
    refine xr_sub [2, 0] rfl ?_
    exact k_X12_seal_L49 C hr hlk hnm hR n21 a0 0 _ _ _ hm
  · replace hm := hm.2 q4
    refine xr_iload C dX12_seal_13 0 rfl ?_
    exact xr_ireturn C hr hlk hm dX12_seal_15
set_option maxRecDepth 100000 in
set_option maxHeartbeats 4000000 in
theorem c_X12_isGood {l : Launch} {D : va_G} {E : Ev} (a0 : Nat) (xp1 : Int32) (yp2 : Int64) (yp4 : Int64) (h : Hp) (kc ks : Nat) {Q : Int32 → Hp → Prop} (hm : m_X12_isGood E a0 xp1 yp2 yp4 h kc ks Q) : XMet l yX12_isGood cX12_isGood 6 (some .boolean) 1 27 kc ks D E h [.ref a0, .int xp1, .long yp2, .long yp4] (fun A => va_Qi Q (XPost D A) A) := by
  refine xm_of (lv0 := [(0, .ref a0), (1, .int xp1), (2, .long yp2), (4, .long yp4)]) (by decide) (Nat.le_of_ble_eq_true rfl) rfl RX12 rfl (fun p e s m args below meth c A R hRm C hr hlk hnm => ?_)
  have hR : R.frames = 1 ∧ R.locals = 27 := by rw [hRm]; exact ⟨rfl, rfl⟩
  refine xr_lload C dX12_isGood_0 3 rfl ?_
  refine xr_lconst (v := 0) C dX12_isGood_2 rfl ?_
  refine xr_lcmp C dX12_isGood_3 ?_
  refine xr_if_le (tgt := 24) C dX12_isGood_4 (by decide) (fun q1 => ?_) (fun q1 => ?_)
  · replace hm := hm.1 q1
    refine xr_iconst (v := 0) C dX12_isGood_24 rfl ?_
    exact xr_zreturn C hr hlk (Or.inl rfl) hm dX12_isGood_25
  · replace hm := hm.2 q1
    refine xr_aload_n (r := (some a0)) C dX12_isGood_7 0 rfl ?_
    refine xr_iload_n C dX12_isGood_8 1 rfl ?_
    refine xr_lload_n C dX12_isGood_9 2 rfl ?_
    obtain ⟨⟨fs2, e2⟩, hm⟩ := hm
    refine xr_cVi (n := 2) (As := [.int xp1, .long yp2]) (st := []) C (c_X12_find a0 xp1 yp2 h 0 0 hm) e2 rfl wd_708 wd_710 wd_711 wd_712 wd_709 (by decide +kernel) rfl (by rw [hR.1, hR.2]; decide) (Nat.zero_add _).symm (Nat.zero_add _).symm rfl (Nat.le_of_ble_eq_true rfl) dX12_isGood_10 (fun x3 h4 hn => ?_)
    clear hm
    have hm := hn
    clear hn
    refine xr_i2l (v := x3.toInt64) C dX12_isGood_13 rfl ?_
    refine xr_lload C dX12_isGood_14 3 rfl ?_
    refine xr_lcmp C dX12_isGood_16 ?_
    refine xr_if_ne (tgt := 24) C dX12_isGood_17 (by decide) (fun q5 => ?_) (fun q5 => ?_)
    · replace hm := hm.2 q5
      refine xr_iconst (v := 0) C dX12_isGood_24 rfl ?_
      exact xr_zreturn C hr hlk (Or.inl rfl) hm dX12_isGood_25
    · replace hm := hm.1 q5
      refine xr_iconst (v := 1) C dX12_isGood_20 rfl ?_
      refine xr_goto (tgt := 25) C dX12_isGood_21 (by decide) ?_
      exact xr_zreturn C hr hlk (Or.inr rfl) hm dX12_isGood_25
set_option maxRecDepth 100000 in
set_option maxHeartbeats 4000000 in
theorem c_X12_lengthOf {l : Launch} {D : va_G} {E : Ev} (xp0 : Int32) (h : Hp) (kc ks : Nat) {Q : Int32 → Hp → Prop} (hm : m_X12_lengthOf E xp0 h kc ks Q) : XMet l yX12_lengthOf cX12_lengthOf 1 (some .int) 0 0 kc ks D E h [.int xp0] (fun A => va_Qi Q (XPost D A) A) := by
  refine xm_of (lv0 := [(0, .int xp0)]) (by decide) (Nat.le_of_ble_eq_true rfl) rfl RX12 rfl (fun p e s m args below meth c A R hRm C hr hlk hnm => ?_)
  have hR : R.frames = 0 ∧ R.locals = 0 := by rw [hRm]; exact ⟨rfl, rfl⟩
  refine xr_iload_n C dX12_lengthOf_0 0 rfl ?_
  by_cases q_0 : xp0 = 1
  · replace hm := hm.1 q_0
    refine xr_tableIn (tgt := 60) C dX12_lengthOf_1 (by rw [q_0]; decide) (by rw [q_0]; decide) (by rw [q_0] <;> rfl) (by decide) ?_
    refine xr_iconst (v := 1) C dX12_lengthOf_60 rfl ?_
    exact xr_ireturn C hr hlk hm dX12_lengthOf_61
  · replace hm := hm.2 q_0
    by_cases q_1 : xp0 = 2
    · replace hm := hm.1 q_1
      refine xr_tableIn (tgt := 62) C dX12_lengthOf_1 (by rw [q_1]; decide) (by rw [q_1]; decide) (by rw [q_1] <;> rfl) (by decide) ?_
      refine xr_iconst (v := 2) C dX12_lengthOf_62 rfl ?_
      exact xr_ireturn C hr hlk hm dX12_lengthOf_63
    · replace hm := hm.2 q_1
      by_cases q_2 : xp0 = 3
      · replace hm := hm.1 q_2
        refine xr_tableIn (tgt := 64) C dX12_lengthOf_1 (by rw [q_2]; decide) (by rw [q_2]; decide) (by rw [q_2] <;> rfl) (by decide) ?_
        refine xr_iconst (v := 5) C dX12_lengthOf_64 rfl ?_
        exact xr_ireturn C hr hlk hm dX12_lengthOf_65
      · replace hm := hm.2 q_2
        by_cases q_3 : xp0 = 4
        · replace hm := hm.1 q_3
          refine xr_tableIn (tgt := 66) C dX12_lengthOf_1 (by rw [q_3]; decide) (by rw [q_3]; decide) (by rw [q_3] <;> rfl) (by decide) ?_
          refine xr_iconst (v := 4) C dX12_lengthOf_66 rfl ?_
          exact xr_ireturn C hr hlk hm dX12_lengthOf_67
        · replace hm := hm.2 q_3
          by_cases q_4 : xp0 = 5
          · replace hm := hm.1 q_4
            refine xr_tableIn (tgt := 60) C dX12_lengthOf_1 (by rw [q_4]; decide) (by rw [q_4]; decide) (by rw [q_4] <;> rfl) (by decide) ?_
            refine xr_iconst (v := 1) C dX12_lengthOf_60 rfl ?_
            exact xr_ireturn C hr hlk hm dX12_lengthOf_61
          · replace hm := hm.2 q_4
            by_cases q_5 : xp0 = 6
            · replace hm := hm.1 q_5
              refine xr_tableIn (tgt := 60) C dX12_lengthOf_1 (by rw [q_5]; decide) (by rw [q_5]; decide) (by rw [q_5] <;> rfl) (by decide) ?_
              refine xr_iconst (v := 1) C dX12_lengthOf_60 rfl ?_
              exact xr_ireturn C hr hlk hm dX12_lengthOf_61
            · replace hm := hm.2 q_5
              by_cases q_6 : xp0 = 7
              · replace hm := hm.1 q_6
                refine xr_tableIn (tgt := 60) C dX12_lengthOf_1 (by rw [q_6]; decide) (by rw [q_6]; decide) (by rw [q_6] <;> rfl) (by decide) ?_
                refine xr_iconst (v := 1) C dX12_lengthOf_60 rfl ?_
                exact xr_ireturn C hr hlk hm dX12_lengthOf_61
              · replace hm := hm.2 q_6
                by_cases q_7 : xp0 = 8
                · replace hm := hm.1 q_7
                  refine xr_tableIn (tgt := 66) C dX12_lengthOf_1 (by rw [q_7]; decide) (by rw [q_7]; decide) (by rw [q_7] <;> rfl) (by decide) ?_
                  refine xr_iconst (v := 4) C dX12_lengthOf_66 rfl ?_
                  exact xr_ireturn C hr hlk hm dX12_lengthOf_67
                · replace hm := hm.2 q_7
                  by_cases q_8 : xp0 = 9
                  · replace hm := hm.1 q_8
                    refine xr_tableIn (tgt := 62) C dX12_lengthOf_1 (by rw [q_8]; decide) (by rw [q_8]; decide) (by rw [q_8] <;> rfl) (by decide) ?_
                    refine xr_iconst (v := 2) C dX12_lengthOf_62 rfl ?_
                    exact xr_ireturn C hr hlk hm dX12_lengthOf_63
                  · replace hm := hm.2 q_8
                    by_cases q_9 : xp0 = 10
                    · replace hm := hm.1 q_9
                      refine xr_tableIn (tgt := 60) C dX12_lengthOf_1 (by rw [q_9]; decide) (by rw [q_9]; decide) (by rw [q_9] <;> rfl) (by decide) ?_
                      refine xr_iconst (v := 1) C dX12_lengthOf_60 rfl ?_
                      exact xr_ireturn C hr hlk hm dX12_lengthOf_61
                    · replace hm := hm.2 q_9
                      by_cases q_10 : xp0 = 11
                      · replace hm := hm.1 q_10
                        refine xr_tableIn (tgt := 66) C dX12_lengthOf_1 (by rw [q_10]; decide) (by rw [q_10]; decide) (by rw [q_10] <;> rfl) (by decide) ?_
                        refine xr_iconst (v := 4) C dX12_lengthOf_66 rfl ?_
                        exact xr_ireturn C hr hlk hm dX12_lengthOf_67
                      · replace hm := hm.2 q_10
                        have z_0 := lv_neT (a := 1) q_0 rfl
                        have z_1 := lv_neT (a := 2) q_1 rfl
                        have z_2 := lv_neT (a := 3) q_2 rfl
                        have z_3 := lv_neT (a := 4) q_3 rfl
                        have z_4 := lv_neT (a := 5) q_4 rfl
                        have z_5 := lv_neT (a := 6) q_5 rfl
                        have z_6 := lv_neT (a := 7) q_6 rfl
                        have z_7 := lv_neT (a := 8) q_7 rfl
                        have z_8 := lv_neT (a := 9) q_8 rfl
                        have z_9 := lv_neT (a := 10) q_9 rfl
                        have z_10 := lv_neT (a := 11) q_10 rfl
                        refine xr_tableOut (tgt := 68) C dX12_lengthOf_1 (by omega) (by decide) ?_
                        refine xr_iconst (v := 0) C dX12_lengthOf_68 rfl ?_
                        exact xr_ireturn C hr hlk hm dX12_lengthOf_69
set_option maxRecDepth 100000 in
set_option maxHeartbeats 4000000 in
theorem k_X12_has_L87 {p : Program} {l : Launch} {e : Env} {R : Room} {s : State} {m : MethodId} {args : Array Value} {below : List Frame} {meth : Method} {c : Code} {D : va_G} {E : Ev} {A : Nat → Prop} {KC KS : Nat} (C : XC p R s m args c D E A 2 RX12 cX12_has KC KS) (hr : meth.sig.returnType = (some .boolean)) (hlk : meth.locks = false) (hnm : meth.name = "has") (hR : R.frames = 0 ∧ R.locals = 0) {Q : Int32 → Hp → Prop} : ∀  (h : Hp) (kc ks : Nat), m_X12_has_L87 E  h kc ks Q → XW p l e R s m args below meth c (MQ below (va_Qi Q (XPost D A) A) args s KC KS A) D A KC KS 2 h kc ks [] 87 [] := by
  intro  h kc ks hm
  refine xr_iconst (v := 1) C dX12_has_87 rfl ?_
  refine xr_goto (tgt := 92) C dX12_has_88 (by decide) ?_
  exact xr_zreturn C hr hlk (Or.inr rfl) hm dX12_has_92
set_option maxRecDepth 100000 in
set_option maxHeartbeats 4000000 in
theorem k_X12_has_L138 {p : Program} {l : Launch} {e : Env} {R : Room} {s : State} {m : MethodId} {args : Array Value} {below : List Frame} {meth : Method} {c : Code} {D : va_G} {E : Ev} {A : Nat → Prop} {KC KS : Nat} (C : XC p R s m args c D E A 2 RX12 cX12_has KC KS) (hr : meth.sig.returnType = (some .boolean)) (hlk : meth.locks = false) (hnm : meth.name = "has") (hR : R.frames = 0 ∧ R.locals = 0) {Q : Int32 → Hp → Prop} : ∀  (h : Hp) (kc ks : Nat), m_X12_has_L138 E  h kc ks Q → XW p l e R s m args below meth c (MQ below (va_Qi Q (XPost D A) A) args s KC KS A) D A KC KS 2 h kc ks [] 138 [] := by
  intro  h kc ks hm
  refine xr_iconst (v := 1) C dX12_has_138 rfl ?_
  refine xr_goto (tgt := 143) C dX12_has_139 (by decide) ?_
  exact xr_zreturn C hr hlk (Or.inr rfl) hm dX12_has_143
set_option maxRecDepth 100000 in
set_option maxHeartbeats 4000000 in
theorem k_X12_has_L167 {p : Program} {l : Launch} {e : Env} {R : Room} {s : State} {m : MethodId} {args : Array Value} {below : List Frame} {meth : Method} {c : Code} {D : va_G} {E : Ev} {A : Nat → Prop} {KC KS : Nat} (C : XC p R s m args c D E A 2 RX12 cX12_has KC KS) (hr : meth.sig.returnType = (some .boolean)) (hlk : meth.locks = false) (hnm : meth.name = "has") (hR : R.frames = 0 ∧ R.locals = 0) {Q : Int32 → Hp → Prop} : ∀  (h : Hp) (kc ks : Nat), m_X12_has_L167 E  h kc ks Q → XW p l e R s m args below meth c (MQ below (va_Qi Q (XPost D A) A) args s KC KS A) D A KC KS 2 h kc ks [] 167 [] := by
  intro  h kc ks hm
  refine xr_iconst (v := 1) C dX12_has_167 rfl ?_
  refine xr_goto (tgt := 172) C dX12_has_168 (by decide) ?_
  exact xr_zreturn C hr hlk (Or.inr rfl) hm dX12_has_172
set_option maxRecDepth 100000 in
set_option maxHeartbeats 4000000 in
theorem k_X12_has_L191 {p : Program} {l : Launch} {e : Env} {R : Room} {s : State} {m : MethodId} {args : Array Value} {below : List Frame} {meth : Method} {c : Code} {D : va_G} {E : Ev} {A : Nat → Prop} {KC KS : Nat} (C : XC p R s m args c D E A 2 RX12 cX12_has KC KS) (hr : meth.sig.returnType = (some .boolean)) (hlk : meth.locks = false) (hnm : meth.name = "has") (hR : R.frames = 0 ∧ R.locals = 0) {Q : Int32 → Hp → Prop} : ∀  (h : Hp) (kc ks : Nat), m_X12_has_L191 E  h kc ks Q → XW p l e R s m args below meth c (MQ below (va_Qi Q (XPost D A) A) args s KC KS A) D A KC KS 2 h kc ks [] 191 [] := by
  intro  h kc ks hm
  refine xr_iconst (v := 1) C dX12_has_191 rfl ?_
  refine xr_goto (tgt := 196) C dX12_has_192 (by decide) ?_
  exact xr_zreturn C hr hlk (Or.inr rfl) hm dX12_has_196
set_option maxRecDepth 100000 in
set_option maxHeartbeats 4000000 in
theorem k_X12_has_L225 {p : Program} {l : Launch} {e : Env} {R : Room} {s : State} {m : MethodId} {args : Array Value} {below : List Frame} {meth : Method} {c : Code} {D : va_G} {E : Ev} {A : Nat → Prop} {KC KS : Nat} (C : XC p R s m args c D E A 2 RX12 cX12_has KC KS) (hr : meth.sig.returnType = (some .boolean)) (hlk : meth.locks = false) (hnm : meth.name = "has") (hR : R.frames = 0 ∧ R.locals = 0) {Q : Int32 → Hp → Prop} : ∀  (h : Hp) (kc ks : Nat), m_X12_has_L225 E  h kc ks Q → XW p l e R s m args below meth c (MQ below (va_Qi Q (XPost D A) A) args s KC KS A) D A KC KS 2 h kc ks [] 225 [] := by
  intro  h kc ks hm
  refine xr_iconst (v := 1) C dX12_has_225 rfl ?_
  refine xr_goto (tgt := 230) C dX12_has_226 (by decide) ?_
  exact xr_zreturn C hr hlk (Or.inr rfl) hm dX12_has_230
set_option maxRecDepth 100000 in
set_option maxHeartbeats 4000000 in
theorem k_X12_has_L243 {p : Program} {l : Launch} {e : Env} {R : Room} {s : State} {m : MethodId} {args : Array Value} {below : List Frame} {meth : Method} {c : Code} {D : va_G} {E : Ev} {A : Nat → Prop} {KC KS : Nat} (C : XC p R s m args c D E A 2 RX12 cX12_has KC KS) (hr : meth.sig.returnType = (some .boolean)) (hlk : meth.locks = false) (hnm : meth.name = "has") (hR : R.frames = 0 ∧ R.locals = 0) {Q : Int32 → Hp → Prop} : ∀  (h : Hp) (kc ks : Nat), m_X12_has_L243 E  h kc ks Q → XW p l e R s m args below meth c (MQ below (va_Qi Q (XPost D A) A) args s KC KS A) D A KC KS 2 h kc ks [] 243 [] := by
  intro  h kc ks hm
  refine xr_iconst (v := 1) C dX12_has_243 rfl ?_
  refine xr_goto (tgt := 248) C dX12_has_244 (by decide) ?_
  exact xr_zreturn C hr hlk (Or.inr rfl) hm dX12_has_248
set_option maxRecDepth 100000 in
set_option maxHeartbeats 4000000 in
theorem k_X12_has_L261 {p : Program} {l : Launch} {e : Env} {R : Room} {s : State} {m : MethodId} {args : Array Value} {below : List Frame} {meth : Method} {c : Code} {D : va_G} {E : Ev} {A : Nat → Prop} {KC KS : Nat} (C : XC p R s m args c D E A 2 RX12 cX12_has KC KS) (hr : meth.sig.returnType = (some .boolean)) (hlk : meth.locks = false) (hnm : meth.name = "has") (hR : R.frames = 0 ∧ R.locals = 0) {Q : Int32 → Hp → Prop} : ∀  (h : Hp) (kc ks : Nat), m_X12_has_L261 E  h kc ks Q → XW p l e R s m args below meth c (MQ below (va_Qi Q (XPost D A) A) args s KC KS A) D A KC KS 2 h kc ks [] 261 [] := by
  intro  h kc ks hm
  refine xr_iconst (v := 1) C dX12_has_261 rfl ?_
  refine xr_goto (tgt := 266) C dX12_has_262 (by decide) ?_
  exact xr_zreturn C hr hlk (Or.inr rfl) hm dX12_has_266
set_option maxRecDepth 100000 in
set_option maxHeartbeats 4000000 in
theorem c_X12_has {l : Launch} {D : va_G} {E : Ev} (xp0 : Int32) (xp1 : Int32) (h : Hp) (kc ks : Nat) {Q : Int32 → Hp → Prop} (hm : m_X12_has E xp0 xp1 h kc ks Q) : XMet l yX12_has cX12_has 2 (some .boolean) 0 0 kc ks D E h [.int xp0, .int xp1] (fun A => va_Qi Q (XPost D A) A) := by
  refine xm_of (lv0 := [(0, .int xp0), (1, .int xp1)]) (by decide) (Nat.le_of_ble_eq_true rfl) rfl RX12 rfl (fun p e s m args below meth c A R hRm C hr hlk hnm => ?_)
  have hR : R.frames = 0 ∧ R.locals = 0 := by rw [hRm]; exact ⟨rfl, rfl⟩
  refine xr_iload_n C dX12_has_0 0 rfl ?_
  by_cases q_0 : xp0 = 1
  · replace hm := hm.1 q_0
    refine xr_tableIn (tgt := 60) C dX12_has_1 (by rw [q_0]; decide) (by rw [q_0]; decide) (by rw [q_0] <;> rfl) (by decide) ?_
    refine xr_iload_n C dX12_has_60 1 rfl ?_
    refine xr_iconst (v := 4) C dX12_has_61 rfl ?_
    refine xr_icmp_ne (tgt := 69) C dX12_has_62 (by decide) (fun q1 => ?_) (fun q1 => ?_)
    · replace hm := hm.2 q1
      refine xr_iconst (v := 0) C dX12_has_69 rfl ?_
      exact xr_zreturn C hr hlk (Or.inl rfl) hm dX12_has_70
    · replace hm := hm.1 q1
      refine xr_iconst (v := 1) C dX12_has_65 rfl ?_
      refine xr_goto (tgt := 70) C dX12_has_66 (by decide) ?_
      exact xr_zreturn C hr hlk (Or.inr rfl) hm dX12_has_70
  · replace hm := hm.2 q_0
    by_cases q_1 : xp0 = 2
    · replace hm := hm.1 q_1
      refine xr_tableIn (tgt := 71) C dX12_has_1 (by rw [q_1]; decide) (by rw [q_1]; decide) (by rw [q_1] <;> rfl) (by decide) ?_
      refine xr_iload_n C dX12_has_71 1 rfl ?_
      refine xr_iconst (v := 1) C dX12_has_72 rfl ?_
      refine xr_icmp_eq (tgt := 87) C dX12_has_73 (by decide) (fun q2 => ?_) (fun q2 => ?_)
      · replace hm := hm.1 q2
        refine xr_sub [] rfl ?_
        exact k_X12_has_L87 C hr hlk hnm hR _ _ _ hm
      · replace hm := hm.2 q2
        refine xr_iload_n C dX12_has_76 1 rfl ?_
        refine xr_iconst (v := 2) C dX12_has_77 rfl ?_
        refine xr_icmp_eq (tgt := 87) C dX12_has_78 (by decide) (fun q3 => ?_) (fun q3 => ?_)
        · replace hm := hm.1 q3
          refine xr_sub [] rfl ?_
          exact k_X12_has_L87 C hr hlk hnm hR _ _ _ hm
        · replace hm := hm.2 q3
          refine xr_iload_n C dX12_has_81 1 rfl ?_
          refine xr_bipush (v := 8) C dX12_has_82 rfl ?_
          refine xr_icmp_ne (tgt := 91) C dX12_has_84 (by decide) (fun q4 => ?_) (fun q4 => ?_)
          · replace hm := hm.2 q4
            refine xr_iconst (v := 0) C dX12_has_91 rfl ?_
            exact xr_zreturn C hr hlk (Or.inl rfl) hm dX12_has_92
          · replace hm := hm.1 q4
            refine xr_sub [] rfl ?_
            exact k_X12_has_L87 C hr hlk hnm hR _ _ _ hm
    · replace hm := hm.2 q_1
      by_cases q_2 : xp0 = 3
      · replace hm := hm.1 q_2
        refine xr_tableIn (tgt := 93) C dX12_has_1 (by rw [q_2]; decide) (by rw [q_2]; decide) (by rw [q_2] <;> rfl) (by decide) ?_
        refine xr_iload_n C dX12_has_93 1 rfl ?_
        refine xr_bipush (v := 9) C dX12_has_94 rfl ?_
        refine xr_icmp_ne (tgt := 103) C dX12_has_96 (by decide) (fun q5 => ?_) (fun q5 => ?_)
        · replace hm := hm.2 q5
          refine xr_iconst (v := 0) C dX12_has_103 rfl ?_
          exact xr_zreturn C hr hlk (Or.inl rfl) hm dX12_has_104
        · replace hm := hm.1 q5
          refine xr_iconst (v := 1) C dX12_has_99 rfl ?_
          refine xr_goto (tgt := 104) C dX12_has_100 (by decide) ?_
          exact xr_zreturn C hr hlk (Or.inr rfl) hm dX12_has_104
      · replace hm := hm.2 q_2
        by_cases q_3 : xp0 = 4
        · replace hm := hm.1 q_3
          refine xr_tableIn (tgt := 105) C dX12_has_1 (by rw [q_3]; decide) (by rw [q_3]; decide) (by rw [q_3] <;> rfl) (by decide) ?_
          refine xr_iload_n C dX12_has_105 1 rfl ?_
          refine xr_bipush (v := 6) C dX12_has_106 rfl ?_
          refine xr_icmp_ne (tgt := 115) C dX12_has_108 (by decide) (fun q6 => ?_) (fun q6 => ?_)
          · replace hm := hm.2 q6
            refine xr_iconst (v := 0) C dX12_has_115 rfl ?_
            exact xr_zreturn C hr hlk (Or.inl rfl) hm dX12_has_116
          · replace hm := hm.1 q6
            refine xr_iconst (v := 1) C dX12_has_111 rfl ?_
            refine xr_goto (tgt := 116) C dX12_has_112 (by decide) ?_
            exact xr_zreturn C hr hlk (Or.inr rfl) hm dX12_has_116
        · replace hm := hm.2 q_3
          by_cases q_4 : xp0 = 5
          · replace hm := hm.1 q_4
            refine xr_tableIn (tgt := 117) C dX12_has_1 (by rw [q_4]; decide) (by rw [q_4]; decide) (by rw [q_4] <;> rfl) (by decide) ?_
            refine xr_iload_n C dX12_has_117 1 rfl ?_
            refine xr_iconst (v := 3) C dX12_has_118 rfl ?_
            refine xr_icmp_eq (tgt := 138) C dX12_has_119 (by decide) (fun q7 => ?_) (fun q7 => ?_)
            · replace hm := hm.1 q7
              refine xr_sub [] rfl ?_
              exact k_X12_has_L138 C hr hlk hnm hR _ _ _ hm
            · replace hm := hm.2 q7
              refine xr_iload_n C dX12_has_122 1 rfl ?_
              refine xr_iconst (v := 4) C dX12_has_123 rfl ?_
              refine xr_icmp_eq (tgt := 138) C dX12_has_124 (by decide) (fun q8 => ?_) (fun q8 => ?_)
              · replace hm := hm.1 q8
                refine xr_sub [] rfl ?_
                exact k_X12_has_L138 C hr hlk hnm hR _ _ _ hm
              · replace hm := hm.2 q8
                refine xr_iload_n C dX12_has_127 1 rfl ?_
                refine xr_iconst (v := 5) C dX12_has_128 rfl ?_
                refine xr_icmp_eq (tgt := 138) C dX12_has_129 (by decide) (fun q9 => ?_) (fun q9 => ?_)
                · replace hm := hm.1 q9
                  refine xr_sub [] rfl ?_
                  exact k_X12_has_L138 C hr hlk hnm hR _ _ _ hm
                · replace hm := hm.2 q9
                  refine xr_iload_n C dX12_has_132 1 rfl ?_
                  refine xr_bipush (v := 7) C dX12_has_133 rfl ?_
                  refine xr_icmp_ne (tgt := 142) C dX12_has_135 (by decide) (fun q10 => ?_) (fun q10 => ?_)
                  · replace hm := hm.2 q10
                    refine xr_iconst (v := 0) C dX12_has_142 rfl ?_
                    exact xr_zreturn C hr hlk (Or.inl rfl) hm dX12_has_143
                  · replace hm := hm.1 q10
                    refine xr_sub [] rfl ?_
                    exact k_X12_has_L138 C hr hlk hnm hR _ _ _ hm
          · replace hm := hm.2 q_4
            by_cases q_5 : xp0 = 6
            · replace hm := hm.1 q_5
              refine xr_tableIn (tgt := 144) C dX12_has_1 (by rw [q_5]; decide) (by rw [q_5]; decide) (by rw [q_5] <;> rfl) (by decide) ?_
              refine xr_iload_n C dX12_has_144 1 rfl ?_
              refine xr_iconst (v := 2) C dX12_has_145 rfl ?_
              refine xr_icmp_eq (tgt := 167) C dX12_has_146 (by decide) (fun q11 => ?_) (fun q11 => ?_)
              · replace hm := hm.1 q11
                refine xr_sub [] rfl ?_
                exact k_X12_has_L167 C hr hlk hnm hR _ _ _ hm
              · replace hm := hm.2 q11
                refine xr_iload_n C dX12_has_149 1 rfl ?_
                refine xr_bipush (v := 6) C dX12_has_150 rfl ?_
                refine xr_icmp_eq (tgt := 167) C dX12_has_152 (by decide) (fun q12 => ?_) (fun q12 => ?_)
                · replace hm := hm.1 q12
                  refine xr_sub [] rfl ?_
                  exact k_X12_has_L167 C hr hlk hnm hR _ _ _ hm
                · replace hm := hm.2 q12
                  refine xr_iload_n C dX12_has_155 1 rfl ?_
                  refine xr_bipush (v := 7) C dX12_has_156 rfl ?_
                  refine xr_icmp_eq (tgt := 167) C dX12_has_158 (by decide) (fun q13 => ?_) (fun q13 => ?_)
                  · replace hm := hm.1 q13
                    refine xr_sub [] rfl ?_
                    exact k_X12_has_L167 C hr hlk hnm hR _ _ _ hm
                  · replace hm := hm.2 q13
                    refine xr_iload_n C dX12_has_161 1 rfl ?_
                    refine xr_bipush (v := 8) C dX12_has_162 rfl ?_
                    refine xr_icmp_ne (tgt := 171) C dX12_has_164 (by decide) (fun q14 => ?_) (fun q14 => ?_)
                    · replace hm := hm.2 q14
                      refine xr_iconst (v := 0) C dX12_has_171 rfl ?_
                      exact xr_zreturn C hr hlk (Or.inl rfl) hm dX12_has_172
                    · replace hm := hm.1 q14
                      refine xr_sub [] rfl ?_
                      exact k_X12_has_L167 C hr hlk hnm hR _ _ _ hm
            · replace hm := hm.2 q_5
              by_cases q_6 : xp0 = 7
              · replace hm := hm.1 q_6
                refine xr_tableIn (tgt := 173) C dX12_has_1 (by rw [q_6]; decide) (by rw [q_6]; decide) (by rw [q_6] <;> rfl) (by decide) ?_
                refine xr_iload_n C dX12_has_173 1 rfl ?_
                refine xr_bipush (v := 6) C dX12_has_174 rfl ?_
                refine xr_icmp_le (tgt := 191) C dX12_has_176 (by decide) (fun q15 => ?_) (fun q15 => ?_)
                · replace hm := hm.1 q15
                  refine xr_sub [] rfl ?_
                  exact k_X12_has_L191 C hr hlk hnm hR _ _ _ hm
                · replace hm := hm.2 q15
                  refine xr_iload_n C dX12_has_179 1 rfl ?_
                  refine xr_bipush (v := 8) C dX12_has_180 rfl ?_
                  refine xr_icmp_eq (tgt := 191) C dX12_has_182 (by decide) (fun q16 => ?_) (fun q16 => ?_)
                  · replace hm := hm.1 q16
                    refine xr_sub [] rfl ?_
                    exact k_X12_has_L191 C hr hlk hnm hR _ _ _ hm
                  · replace hm := hm.2 q16
                    refine xr_iload_n C dX12_has_185 1 rfl ?_
                    refine xr_bipush (v := 11) C dX12_has_186 rfl ?_
                    refine xr_icmp_ne (tgt := 195) C dX12_has_188 (by decide) (fun q17 => ?_) (fun q17 => ?_)
                    · replace hm := hm.2 q17
                      refine xr_iconst (v := 0) C dX12_has_195 rfl ?_
                      exact xr_zreturn C hr hlk (Or.inl rfl) hm dX12_has_196
                    · replace hm := hm.1 q17
                      refine xr_sub [] rfl ?_
                      exact k_X12_has_L191 C hr hlk hnm hR _ _ _ hm
              · replace hm := hm.2 q_6
                by_cases q_7 : xp0 = 8
                · replace hm := hm.1 q_7
                  refine xr_tableIn (tgt := 197) C dX12_has_1 (by rw [q_7]; decide) (by rw [q_7]; decide) (by rw [q_7] <;> rfl) (by decide) ?_
                  refine xr_iload_n C dX12_has_197 1 rfl ?_
                  refine xr_iconst (v := 1) C dX12_has_198 rfl ?_
                  refine xr_icmp_eq (tgt := 225) C dX12_has_199 (by decide) (fun q18 => ?_) (fun q18 => ?_)
                  · replace hm := hm.1 q18
                    refine xr_sub [] rfl ?_
                    exact k_X12_has_L225 C hr hlk hnm hR _ _ _ hm
                  · replace hm := hm.2 q18
                    refine xr_iload_n C dX12_has_202 1 rfl ?_
                    refine xr_iconst (v := 2) C dX12_has_203 rfl ?_
                    refine xr_icmp_eq (tgt := 225) C dX12_has_204 (by decide) (fun q19 => ?_) (fun q19 => ?_)
                    · replace hm := hm.1 q19
                      refine xr_sub [] rfl ?_
                      exact k_X12_has_L225 C hr hlk hnm hR _ _ _ hm
                    · replace hm := hm.2 q19
                      refine xr_iload_n C dX12_has_207 1 rfl ?_
                      refine xr_bipush (v := 8) C dX12_has_208 rfl ?_
                      refine xr_icmp_eq (tgt := 225) C dX12_has_210 (by decide) (fun q20 => ?_) (fun q20 => ?_)
                      · replace hm := hm.1 q20
                        refine xr_sub [] rfl ?_
                        exact k_X12_has_L225 C hr hlk hnm hR _ _ _ hm
                      · replace hm := hm.2 q20
                        refine xr_iload_n C dX12_has_213 1 rfl ?_
                        refine xr_bipush (v := 10) C dX12_has_214 rfl ?_
                        refine xr_icmp_eq (tgt := 225) C dX12_has_216 (by decide) (fun q21 => ?_) (fun q21 => ?_)
                        · replace hm := hm.1 q21
                          refine xr_sub [] rfl ?_
                          exact k_X12_has_L225 C hr hlk hnm hR _ _ _ hm
                        · replace hm := hm.2 q21
                          refine xr_iload_n C dX12_has_219 1 rfl ?_
                          refine xr_bipush (v := 11) C dX12_has_220 rfl ?_
                          refine xr_icmp_ne (tgt := 229) C dX12_has_222 (by decide) (fun q22 => ?_) (fun q22 => ?_)
                          · replace hm := hm.2 q22
                            refine xr_iconst (v := 0) C dX12_has_229 rfl ?_
                            exact xr_zreturn C hr hlk (Or.inl rfl) hm dX12_has_230
                          · replace hm := hm.1 q22
                            refine xr_sub [] rfl ?_
                            exact k_X12_has_L225 C hr hlk hnm hR _ _ _ hm
                · replace hm := hm.2 q_7
                  by_cases q_8 : xp0 = 9
                  · replace hm := hm.1 q_8
                    refine xr_tableIn (tgt := 231) C dX12_has_1 (by rw [q_8]; decide) (by rw [q_8]; decide) (by rw [q_8] <;> rfl) (by decide) ?_
                    refine xr_iload_n C dX12_has_231 1 rfl ?_
                    refine xr_bipush (v := 8) C dX12_has_232 rfl ?_
                    refine xr_icmp_eq (tgt := 243) C dX12_has_234 (by decide) (fun q23 => ?_) (fun q23 => ?_)
                    · replace hm := hm.1 q23
                      refine xr_sub [] rfl ?_
                      exact k_X12_has_L243 C hr hlk hnm hR _ _ _ hm
                    · replace hm := hm.2 q23
                      refine xr_iload_n C dX12_has_237 1 rfl ?_
                      refine xr_bipush (v := 10) C dX12_has_238 rfl ?_
                      refine xr_icmp_ne (tgt := 247) C dX12_has_240 (by decide) (fun q24 => ?_) (fun q24 => ?_)
                      · replace hm := hm.2 q24
                        refine xr_iconst (v := 0) C dX12_has_247 rfl ?_
                        exact xr_zreturn C hr hlk (Or.inl rfl) hm dX12_has_248
                      · replace hm := hm.1 q24
                        refine xr_sub [] rfl ?_
                        exact k_X12_has_L243 C hr hlk hnm hR _ _ _ hm
                  · replace hm := hm.2 q_8
                    by_cases q_9 : xp0 = 10
                    · replace hm := hm.1 q_9
                      refine xr_tableIn (tgt := 249) C dX12_has_1 (by rw [q_9]; decide) (by rw [q_9]; decide) (by rw [q_9] <;> rfl) (by decide) ?_
                      refine xr_iload_n C dX12_has_249 1 rfl ?_
                      refine xr_bipush (v := 7) C dX12_has_250 rfl ?_
                      refine xr_icmp_eq (tgt := 261) C dX12_has_252 (by decide) (fun q25 => ?_) (fun q25 => ?_)
                      · replace hm := hm.1 q25
                        refine xr_sub [] rfl ?_
                        exact k_X12_has_L261 C hr hlk hnm hR _ _ _ hm
                      · replace hm := hm.2 q25
                        refine xr_iload_n C dX12_has_255 1 rfl ?_
                        refine xr_bipush (v := 8) C dX12_has_256 rfl ?_
                        refine xr_icmp_ne (tgt := 265) C dX12_has_258 (by decide) (fun q26 => ?_) (fun q26 => ?_)
                        · replace hm := hm.2 q26
                          refine xr_iconst (v := 0) C dX12_has_265 rfl ?_
                          exact xr_zreturn C hr hlk (Or.inl rfl) hm dX12_has_266
                        · replace hm := hm.1 q26
                          refine xr_sub [] rfl ?_
                          exact k_X12_has_L261 C hr hlk hnm hR _ _ _ hm
                    · replace hm := hm.2 q_9
                      by_cases q_10 : xp0 = 11
                      · replace hm := hm.1 q_10
                        refine xr_tableIn (tgt := 173) C dX12_has_1 (by rw [q_10]; decide) (by rw [q_10]; decide) (by rw [q_10] <;> rfl) (by decide) ?_
                        refine xr_iload_n C dX12_has_173 1 rfl ?_
                        refine xr_bipush (v := 6) C dX12_has_174 rfl ?_
                        refine xr_icmp_le (tgt := 191) C dX12_has_176 (by decide) (fun q27 => ?_) (fun q27 => ?_)
                        · replace hm := hm.1 q27
                          refine xr_sub [] rfl ?_
                          exact k_X12_has_L191 C hr hlk hnm hR _ _ _ hm
                        · replace hm := hm.2 q27
                          refine xr_iload_n C dX12_has_179 1 rfl ?_
                          refine xr_bipush (v := 8) C dX12_has_180 rfl ?_
                          refine xr_icmp_eq (tgt := 191) C dX12_has_182 (by decide) (fun q28 => ?_) (fun q28 => ?_)
                          · replace hm := hm.1 q28
                            refine xr_sub [] rfl ?_
                            exact k_X12_has_L191 C hr hlk hnm hR _ _ _ hm
                          · replace hm := hm.2 q28
                            refine xr_iload_n C dX12_has_185 1 rfl ?_
                            refine xr_bipush (v := 11) C dX12_has_186 rfl ?_
                            refine xr_icmp_ne (tgt := 195) C dX12_has_188 (by decide) (fun q29 => ?_) (fun q29 => ?_)
                            · replace hm := hm.2 q29
                              refine xr_iconst (v := 0) C dX12_has_195 rfl ?_
                              exact xr_zreturn C hr hlk (Or.inl rfl) hm dX12_has_196
                            · replace hm := hm.1 q29
                              refine xr_sub [] rfl ?_
                              exact k_X12_has_L191 C hr hlk hnm hR _ _ _ hm
                      · replace hm := hm.2 q_10
                        have z_0 := lv_neT (a := 1) q_0 rfl
                        have z_1 := lv_neT (a := 2) q_1 rfl
                        have z_2 := lv_neT (a := 3) q_2 rfl
                        have z_3 := lv_neT (a := 4) q_3 rfl
                        have z_4 := lv_neT (a := 5) q_4 rfl
                        have z_5 := lv_neT (a := 6) q_5 rfl
                        have z_6 := lv_neT (a := 7) q_6 rfl
                        have z_7 := lv_neT (a := 8) q_7 rfl
                        have z_8 := lv_neT (a := 9) q_8 rfl
                        have z_9 := lv_neT (a := 10) q_9 rfl
                        have z_10 := lv_neT (a := 11) q_10 rfl
                        refine xr_tableOut (tgt := 267) C dX12_has_1 (by omega) (by decide) ?_
                        refine xr_iconst (v := 0) C dX12_has_267 rfl ?_
                        exact xr_zreturn C hr hlk (Or.inl rfl) hm dX12_has_268
set_option maxRecDepth 100000 in
set_option maxHeartbeats 4000000 in
theorem c_X12_lie {l : Launch} {D : va_G} {E : Ev} (a0 : Nat) (xp1 : Int32) (xp2 : Int32) (xp3 : Int32) (xp4 : Int32) (xp5 : Int32) (h : Hp) (kc ks : Nat) {Q : Hp → Prop} (hm : m_X12_lie E a0 xp1 xp2 xp3 xp4 xp5 h kc ks Q) : XMet l yX12_lie cX12_lie 6 none 0 0 kc ks D E h [.ref a0, .int xp1, .int xp2, .int xp3, .int xp4, .int xp5] (fun A => va_Qv Q (XPost D A) A) := by
  refine xm_of (lv0 := [(0, .ref a0), (1, .int xp1), (2, .int xp2), (3, .int xp3), (4, .int xp4), (5, .int xp5)]) (by decide) (Nat.le_of_ble_eq_true rfl) rfl RX12 rfl (fun p e s m args below meth c A R hRm C hr hlk hnm => ?_)
  have hR : R.frames = 0 ∧ R.locals = 0 := by rw [hRm]; exact ⟨rfl, rfl⟩
  refine xr_aload_n (r := (some a0)) C dX12_lie_0 0 rfl ?_
  obtain ⟨fs1, r2, e1, f1, hm⟩ := hm
  refine xr_get (ci := 13) C 7 e1 f1 rfl inX12 (by decide) wd_660 dX12_lie_1 ?_
  refine xr_aload_n (r := (some a0)) C dX12_lie_4 0 rfl ?_
  obtain ⟨fs3, x4, e3, f3, hm⟩ := hm
  refine xr_get (ci := 13) C 6 e3 f3 rfl inX12 (by decide) wd_713 dX12_lie_5 ?_
  refine xr_iload_n C dX12_lie_8 1 rfl ?_
  obtain ⟨a6, rfl, hm⟩ := hm
  obtain ⟨N5, f5, e5, b5, h7, v5, hm⟩ := hm
  refine xr_iast C 0 rfl e5 b5 v5 dX12_lie_9 ?_
  refine xr_aload_n (r := (some a0)) C dX12_lie_10 0 rfl ?_
  obtain ⟨fs8, r9, e8, f8, hm⟩ := hm
  refine xr_get (ci := 13) C 8 e8 f8 rfl inX12 (by decide) wd_661 dX12_lie_11 ?_
  refine xr_aload_n (r := (some a0)) C dX12_lie_14 0 rfl ?_
  obtain ⟨fs10, x11, e10, f10, hm⟩ := hm
  refine xr_get (ci := 13) C 6 e10 f10 rfl inX12 (by decide) wd_713 dX12_lie_15 ?_
  refine xr_iload_n C dX12_lie_18 2 rfl ?_
  obtain ⟨a13, rfl, hm⟩ := hm
  obtain ⟨N12, f12, e12, b12, h14, v12, hm⟩ := hm
  refine xr_iast C 0 rfl e12 b12 v12 dX12_lie_19 ?_
  refine xr_aload_n (r := (some a0)) C dX12_lie_20 0 rfl ?_
  obtain ⟨fs15, r16, e15, f15, hm⟩ := hm
  refine xr_get (ci := 13) C 9 e15 f15 rfl inX12 (by decide) wd_662 dX12_lie_21 ?_
  refine xr_aload_n (r := (some a0)) C dX12_lie_24 0 rfl ?_
  obtain ⟨fs17, x18, e17, f17, hm⟩ := hm
  refine xr_get (ci := 13) C 6 e17 f17 rfl inX12 (by decide) wd_713 dX12_lie_25 ?_
  refine xr_iload_n C dX12_lie_28 3 rfl ?_
  obtain ⟨a20, rfl, hm⟩ := hm
  obtain ⟨N19, f19, e19, b19, h21, v19, hm⟩ := hm
  refine xr_iast C 0 rfl e19 b19 v19 dX12_lie_29 ?_
  refine xr_aload_n (r := (some a0)) C dX12_lie_30 0 rfl ?_
  obtain ⟨fs22, r23, e22, f22, hm⟩ := hm
  refine xr_get (ci := 13) C 10 e22 f22 rfl inX12 (by decide) wd_663 dX12_lie_31 ?_
  refine xr_aload_n (r := (some a0)) C dX12_lie_34 0 rfl ?_
  obtain ⟨fs24, x25, e24, f24, hm⟩ := hm
  refine xr_get (ci := 13) C 6 e24 f24 rfl inX12 (by decide) wd_713 dX12_lie_35 ?_
  refine xr_iload C dX12_lie_38 4 rfl ?_
  obtain ⟨a27, rfl, hm⟩ := hm
  obtain ⟨N26, f26, e26, b26, h28, v26, hm⟩ := hm
  refine xr_iast C 0 rfl e26 b26 v26 dX12_lie_40 ?_
  refine xr_aload_n (r := (some a0)) C dX12_lie_41 0 rfl ?_
  obtain ⟨fs29, r30, e29, f29, hm⟩ := hm
  refine xr_get (ci := 13) C 11 e29 f29 rfl inX12 (by decide) wd_664 dX12_lie_42 ?_
  refine xr_aload_n (r := (some a0)) C dX12_lie_45 0 rfl ?_
  obtain ⟨fs31, x32, e31, f31, hm⟩ := hm
  refine xr_get (ci := 13) C 6 e31 f31 rfl inX12 (by decide) wd_713 dX12_lie_46 ?_
  refine xr_iload C dX12_lie_49 5 rfl ?_
  obtain ⟨a34, rfl, hm⟩ := hm
  obtain ⟨N33, f33, e33, b33, h35, v33, hm⟩ := hm
  refine xr_iast C 0 rfl e33 b33 v33 dX12_lie_51 ?_
  refine xr_aload_n (r := (some a0)) C dX12_lie_52 0 rfl ?_
  refine xr_dup C dX12_lie_53 rfl ?_
  obtain ⟨fs36, x37, e36, f36, hm⟩ := hm
  refine xr_get (ci := 13) C 6 e36 f36 rfl inX12 (by decide) wd_713 dX12_lie_54 ?_
  refine xr_iconst (v := 1) C dX12_lie_57 rfl ?_
  refine xr_iadd C dX12_lie_58 ?_
  obtain ⟨fs38, e38, f38, h39, eh38, hm⟩ := hm
  refine xr_put (ci := 13) (v := .int (x37 + 1)) C 6 .int tyX12 tyX12_ok nmX12 e38 f38 rfl inX12 (by decide) wd_713 rfl (by decide) rfl rfl eh38 dX12_lie_59 ?_
  exact xr_vreturn C hr hlk hm dX12_lie_62
set_option maxRecDepth 100000 in
set_option maxHeartbeats 4000000 in
theorem k_X12_send_L146 {p : Program} {l : Launch} {e : Env} {R : Room} {s : State} {m : MethodId} {args : Array Value} {below : List Frame} {meth : Method} {c : Code} {D : va_G} {E : Ev} {A : Nat → Prop} {KC KS : Nat} (C : XC p R s m args c D E A 11 RX12 cX12_send KC KS) (hr : meth.sig.returnType = (some .boolean)) (hlk : meth.locks = false) (hnm : meth.name = "send") (hR : R.frames = 1 ∧ R.locals = 25) {K34 : Nat → Int32 → Int32 → Int32 → Int32 → Int32 → Int32 → Int32 → Int32 → Hp → Nat → Nat → Prop} {Q : Int32 → Hp → Prop} (hK34 : ∀ (a0 : Nat) (xv1 : Int32) (xv2 : Int32) (xv3 : Int32) (xv4 : Int32) (xv5 : Int32) (xv6 : Int32) (xv7 : Int32) (xv8 : Int32) (h : Hp) (kc ks : Nat), K34 a0 xv1 xv2 xv3 xv4 xv5 xv6 xv7 xv8 h kc ks → XW p l e R s m args below meth c (MQ below (va_Qi Q (XPost D A) A) args s KC KS A) D A KC KS 11 h kc ks [(0, .ref a0), (1, .int xv1), (2, .int xv2), (3, .int xv3), (4, .int xv4), (5, .int xv5), (6, .int xv6), (7, .int xv7), (8, .int xv8)] 34 []) : ∀ (a0 : Nat) (xv1 : Int32) (xv2 : Int32) (xv3 : Int32) (xv4 : Int32) (xv5 : Int32) (xv6 : Int32) (xv7 : Int32) (xv8 : Int32) (h : Hp) (kc ks : Nat), m_X12_send_L146 E a0 xv1 xv2 xv3 xv4 xv5 xv6 xv7 xv8 h kc ks K34 Q → XW p l e R s m args below meth c (MQ below (va_Qi Q (XPost D A) A) args s KC KS A) D A KC KS 11 h kc ks [(0, .ref a0), (1, .int xv1), (2, .int xv2), (3, .int xv3), (4, .int xv4), (5, .int xv5), (6, .int xv6), (7, .int xv7), (8, .int xv8)] 146 [] := by
  intro a0 xv1 xv2 xv3 xv4 xv5 xv6 xv7 xv8 h kc ks hm
  refine xr_iinc (j := 8) (v := xv8 + 1) (lv' := [(8, .int (xv8 + 1)), (0, .ref a0), (1, .int xv1), (2, .int xv2), (3, .int xv3), (4, .int xv4), (5, .int xv5), (6, .int xv6), (7, .int xv7)]) C dX12_send_146 rfl rfl (by decide) rfl ?_
  refine xr_goto (tgt := 34) C dX12_send_149 (by decide) ?_
  refine xr_sub [1, 2, 3, 4, 5, 6, 7, 8, 0] rfl ?_
  exact hK34 a0 xv1 xv2 xv3 xv4 xv5 xv6 xv7 (xv8 + 1) _ _ _ hm
set_option maxRecDepth 100000 in
set_option maxHeartbeats 4000000 in
theorem k_X12_send_L86 {p : Program} {l : Launch} {e : Env} {R : Room} {s : State} {m : MethodId} {args : Array Value} {below : List Frame} {meth : Method} {c : Code} {D : va_G} {E : Ev} {A : Nat → Prop} {KC KS : Nat} (C : XC p R s m args c D E A 11 RX12 cX12_send KC KS) (hr : meth.sig.returnType = (some .boolean)) (hlk : meth.locks = false) (hnm : meth.name = "send") (hR : R.frames = 1 ∧ R.locals = 25) {K34 : Nat → Int32 → Int32 → Int32 → Int32 → Int32 → Int32 → Int32 → Int32 → Hp → Nat → Nat → Prop} {Q : Int32 → Hp → Prop} (hK34 : ∀ (a0 : Nat) (xv1 : Int32) (xv2 : Int32) (xv3 : Int32) (xv4 : Int32) (xv5 : Int32) (xv6 : Int32) (xv7 : Int32) (xv8 : Int32) (h : Hp) (kc ks : Nat), K34 a0 xv1 xv2 xv3 xv4 xv5 xv6 xv7 xv8 h kc ks → XW p l e R s m args below meth c (MQ below (va_Qi Q (XPost D A) A) args s KC KS A) D A KC KS 11 h kc ks [(0, .ref a0), (1, .int xv1), (2, .int xv2), (3, .int xv3), (4, .int xv4), (5, .int xv5), (6, .int xv6), (7, .int xv7), (8, .int xv8)] 34 []) : ∀ (n : Nat) (a0 : Nat) (xv1 : Int32) (xv2 : Int32) (xv3 : Int32) (xv4 : Int32) (xv5 : Int32) (xv6 : Int32) (xv7 : Int32) (xv8 : Int32) (xv9 : Int32) (xv10 : Int32) (h : Hp) (kc ks : Nat), m_X12_send_L86 n E a0 xv1 xv2 xv3 xv4 xv5 xv6 xv7 xv8 xv9 xv10 h kc ks K34 Q → XW p l e R s m args below meth c (MQ below (va_Qi Q (XPost D A) A) args s KC KS A) D A KC KS 11 h kc ks [(0, .ref a0), (1, .int xv1), (2, .int xv2), (3, .int xv3), (4, .int xv4), (5, .int xv5), (6, .int xv6), (7, .int xv7), (8, .int xv8), (9, .int xv9), (10, .int xv10)] 86 [] := by
  intro n
  induction n with
  | zero => intro a0 xv1 xv2 xv3 xv4 xv5 xv6 xv7 xv8 xv9 xv10 h kc ks hm; exact False.elim hm
  | succ n ih =>
    intro a0 xv1 xv2 xv3 xv4 xv5 xv6 xv7 xv8 xv9 xv10 h kc ks hm
    refine xr_iload C dX12_send_86 10 rfl ?_
    refine xr_iload C dX12_send_88 9 rfl ?_
    refine xr_icmp_ge (tgt := 137) C dX12_send_90 (by decide) (fun q34 => ?_) (fun q34 => ?_)
    · replace hm := hm.1 q34
      refine xr_iload C dX12_send_137 7 rfl ?_
      refine xr_iconst (v := 2) C dX12_send_139 rfl ?_
      refine xr_iload C dX12_send_140 9 rfl ?_
      refine xr_iadd C dX12_send_142 ?_
      refine xr_iadd C dX12_send_143 ?_
      refine xr_istore (lv' := [(7, .int (xv7 + (2 + xv9))), (0, .ref a0), (1, .int xv1), (2, .int xv2), (3, .int xv3), (4, .int xv4), (5, .int xv5), (6, .int xv6), (8, .int xv8), (9, .int xv9), (10, .int xv10)]) C dX12_send_144 (by decide) rfl ?_
      refine xr_sub [1, 2, 3, 4, 5, 6, 7, 0, 8] rfl ?_
      exact k_X12_send_L146 C hr hlk hnm hR hK34 a0 xv1 xv2 xv3 xv4 xv5 xv6 (xv7 + (2 + xv9)) xv8 _ _ _ hm
    · replace hm := hm.2 q34
      refine xr_aload_n (r := (some a0)) C dX12_send_93 0 rfl ?_
      obtain ⟨fs35, r36, e35, f35, hm⟩ := hm
      refine xr_get (ci := 13) C 12 e35 f35 rfl inX12 (by decide) wd_665 dX12_send_94 ?_
      refine xr_iload C dX12_send_97 6 rfl ?_
      refine xr_iload C dX12_send_99 7 rfl ?_
      refine xr_iadd C dX12_send_101 ?_
      refine xr_iconst (v := 2) C dX12_send_102 rfl ?_
      refine xr_iadd C dX12_send_103 ?_
      refine xr_iload C dX12_send_104 10 rfl ?_
      refine xr_iadd C dX12_send_106 ?_
      refine xr_aload_n (r := (some a0)) C dX12_send_107 0 rfl ?_
      obtain ⟨fs37, r38, e37, f37, hm⟩ := hm
      refine xr_get (ci := 13) C 18 e37 f37 rfl inX12 (by decide) wd_668 dX12_send_108 ?_
      refine xr_iload C dX12_send_111 8 rfl ?_
      obtain ⟨a40, rfl, hm⟩ := hm
      obtain ⟨N39, f39, y41, e39, b39, v39, hm⟩ := hm
      refine xr_lald C 1 rfl e39 b39 v39 dX12_send_113 ?_
      refine xr_bipush (v := 8) C dX12_send_114 rfl ?_
      refine xr_iload C dX12_send_116 9 rfl ?_
      refine xr_iconst (v := 1) C dX12_send_118 rfl ?_
      refine xr_isub C dX12_send_119 ?_
      refine xr_iload C dX12_send_120 10 rfl ?_
      refine xr_isub C dX12_send_122 ?_
      refine xr_imul C dX12_send_123 ?_
      refine xr_lshr (v := y41 >>> ((8 * ((xv9 - 1) - xv10)).toInt64 &&& 63)) C dX12_send_124 rfl ?_
      refine xr_l2i (v := (y41 >>> ((8 * ((xv9 - 1) - xv10)).toInt64 &&& 63)).toInt32) C dX12_send_125 rfl ?_
      refine xr_sipush (v := 255) C dX12_send_126 rfl ?_
      refine xr_iand C dX12_send_129 ?_
      refine xr_topi (fun x42 e43 => ?_)
      replace hm := hm x42 e43
      obtain ⟨a45, rfl, hm⟩ := hm
      obtain ⟨N44, f44, e44, b44, h46, v44, hm⟩ := hm
      refine xr_iast C 0 rfl e44 b44 v44 dX12_send_130 ?_
      refine xr_iinc (j := 10) (v := xv10 + 1) (lv' := [(10, .int (xv10 + 1)), (0, .ref a0), (1, .int xv1), (2, .int xv2), (3, .int xv3), (4, .int xv4), (5, .int xv5), (6, .int xv6), (7, .int xv7), (8, .int xv8), (9, .int xv9)]) C dX12_send_131 rfl rfl (by decide) rfl ?_
      refine xr_goto (tgt := 86) C dX12_send_134 (by decide) ?_
      refine xr_sub [1, 2, 3, 4, 5, 6, 7, 8, 9, 10, 0] rfl ?_
      exact ih a0 xv1 xv2 xv3 xv4 xv5 xv6 xv7 xv8 xv9 (xv10 + 1) _ _ _ hm
set_option maxRecDepth 100000 in
set_option maxHeartbeats 4000000 in
theorem k_X12_send_L34 {p : Program} {l : Launch} {e : Env} {R : Room} {s : State} {m : MethodId} {args : Array Value} {below : List Frame} {meth : Method} {c : Code} {D : va_G} {E : Ev} {A : Nat → Prop} {KC KS : Nat} (C : XC p R s m args c D E A 11 RX12 cX12_send KC KS) (hr : meth.sig.returnType = (some .boolean)) (hlk : meth.locks = false) (hnm : meth.name = "send") (hR : R.frames = 1 ∧ R.locals = 25) {Q : Int32 → Hp → Prop} : ∀ (n : Nat) (a0 : Nat) (xv1 : Int32) (xv2 : Int32) (xv3 : Int32) (xv4 : Int32) (xv5 : Int32) (xv6 : Int32) (xv7 : Int32) (xv8 : Int32) (h : Hp) (kc ks : Nat), m_X12_send_L34 n E a0 xv1 xv2 xv3 xv4 xv5 xv6 xv7 xv8 h kc ks Q → XW p l e R s m args below meth c (MQ below (va_Qi Q (XPost D A) A) args s KC KS A) D A KC KS 11 h kc ks [(0, .ref a0), (1, .int xv1), (2, .int xv2), (3, .int xv3), (4, .int xv4), (5, .int xv5), (6, .int xv6), (7, .int xv7), (8, .int xv8)] 34 [] := by
  intro n
  induction n with
  | zero => intro a0 xv1 xv2 xv3 xv4 xv5 xv6 xv7 xv8 h kc ks hm; exact False.elim hm
  | succ n ih =>
    intro a0 xv1 xv2 xv3 xv4 xv5 xv6 xv7 xv8 h kc ks hm
    refine xr_iload C dX12_send_34 8 rfl ?_
    refine xr_bipush (v := 11) C dX12_send_36 rfl ?_
    refine xr_icmp_gt (tgt := 152) C dX12_send_38 (by decide) (fun q12 => ?_) (fun q12 => ?_)
    · replace hm := hm.1 q12
      refine xr_aload_n (r := (some a0)) C dX12_send_152 0 rfl ?_
      refine xr_iload_n C dX12_send_153 2 rfl ?_
      refine xr_iload_n C dX12_send_154 3 rfl ?_
      refine xr_iload C dX12_send_155 4 rfl ?_
      refine xr_iload C dX12_send_157 5 rfl ?_
      refine xr_iload C dX12_send_159 7 rfl ?_
      obtain ⟨⟨fs13, e13⟩, hm⟩ := hm
      refine xr_cVv (n := 5) (As := [.int xv2, .int xv3, .int xv4, .int xv5, .int xv7]) (st := []) C (c_X12_lie a0 xv2 xv3 xv4 xv5 xv7 h 0 0 hm) e13 rfl wd_714 wd_716 wd_717 wd_712 wd_715 (by decide +kernel) rfl (by rw [hR.1, hR.2]; decide) (Nat.zero_add _).symm (Nat.zero_add _).symm rfl (Nat.le_of_ble_eq_true rfl) dX12_send_161 (fun h15 hn => ?_)
      clear hm
      have hm := hn
      clear hn
      refine xr_iconst (v := 1) C dX12_send_164 rfl ?_
      exact xr_zreturn C hr hlk (Or.inr rfl) hm dX12_send_165
    · replace hm := hm.2 q12
      refine xr_iload_n C dX12_send_41 1 rfl ?_
      refine xr_iload C dX12_send_42 8 rfl ?_
      refine xr_cSi (n := 2) (As := [.int xv1, .int xv8]) (st := []) C (c_X12_has xv1 xv8 h 0 0 hm) wd_721 wd_723 wd_712 wd_722 (by decide +kernel) rfl (by rw [hR.1, hR.2]; decide) (Nat.zero_add _).symm (Nat.zero_add _).symm rfl (Nat.le_of_ble_eq_true rfl) dX12_send_44 (fun x17 h18 hn => ?_)
      clear hm
      have hm := hn
      clear hn
      refine xr_if_eq (tgt := 146) C dX12_send_47 (by decide) (fun q19 => ?_) (fun q19 => ?_)
      · replace hm := hm.1 q19
        exact k_X12_send_L146 C hr hlk hnm hR ih a0 xv1 xv2 xv3 xv4 xv5 xv6 xv7 xv8 _ _ _ hm
      · replace hm := hm.2 q19
        refine xr_iload C dX12_send_50 8 rfl ?_
        refine xr_cSi (n := 1) (As := [.int xv8]) (st := []) C (c_X12_lengthOf xv8 h18 0 0 hm) wd_718 wd_720 wd_712 wd_719 (by decide +kernel) rfl (by rw [hR.1, hR.2]; decide) (Nat.zero_add _).symm (Nat.zero_add _).symm rfl (Nat.le_of_ble_eq_true rfl) dX12_send_52 (fun x21 h22 hn => ?_)
        clear hm
        have hm := hn
        clear hn
        refine xr_istore (lv' := [(9, .int x21), (0, .ref a0), (1, .int xv1), (2, .int xv2), (3, .int xv3), (4, .int xv4), (5, .int xv5), (6, .int xv6), (7, .int xv7), (8, .int xv8)]) C dX12_send_55 (by decide) rfl ?_
        refine xr_aload_n (r := (some a0)) C dX12_send_57 1 rfl ?_
        obtain ⟨fs23, r24, e23, f23, hm⟩ := hm
        refine xr_get (ci := 13) C 12 e23 f23 rfl inX12 (by decide) wd_665 dX12_send_58 ?_
        refine xr_iload C dX12_send_61 7 rfl ?_
        refine xr_iload C dX12_send_63 8 rfl ?_
        refine xr_iadd C dX12_send_65 ?_
        refine xr_iload C dX12_send_66 9 rfl ?_
        obtain ⟨a26, rfl, hm⟩ := hm
        obtain ⟨N25, f25, e25, b25, h27, v25, hm⟩ := hm
        refine xr_iast C 0 rfl e25 b25 v25 dX12_send_68 ?_
        refine xr_aload_n (r := (some a0)) C dX12_send_69 1 rfl ?_
        obtain ⟨fs28, r29, e28, f28, hm⟩ := hm
        refine xr_get (ci := 13) C 12 e28 f28 rfl inX12 (by decide) wd_665 dX12_send_70 ?_
        refine xr_iload C dX12_send_73 7 rfl ?_
        refine xr_iload C dX12_send_75 8 rfl ?_
        refine xr_iadd C dX12_send_77 ?_
        refine xr_iconst (v := 1) C dX12_send_78 rfl ?_
        refine xr_iadd C dX12_send_79 ?_
        refine xr_iload C dX12_send_80 0 rfl ?_
        obtain ⟨a31, rfl, hm⟩ := hm
        obtain ⟨N30, f30, e30, b30, h32, v30, hm⟩ := hm
        refine xr_iast C 0 rfl e30 b30 v30 dX12_send_82 ?_
        refine xr_iconst (v := 0) C dX12_send_83 rfl ?_
        refine xr_istore (lv' := [(10, .int 0), (9, .int x21), (0, .ref a0), (1, .int xv1), (2, .int xv2), (3, .int xv3), (4, .int xv4), (5, .int xv5), (6, .int xv6), (7, .int xv7), (8, .int xv8)]) C dX12_send_84 (by decide) rfl ?_
        obtain ⟨n33, hm⟩ := hm
        refine xr_sub [2, 3, 4, 5, 6, 7, 8, 9, 10, 1, 0] rfl ?_
        exact k_X12_send_L86 C hr hlk hnm hR ih n33 a0 xv1 xv2 xv3 xv4 xv5 xv6 xv7 xv8 x21 0 _ _ _ hm
set_option maxRecDepth 100000 in
set_option maxHeartbeats 4000000 in
theorem c_X12_send {l : Launch} {D : va_G} {E : Ev} (a0 : Nat) (xp1 : Int32) (xp2 : Int32) (xp3 : Int32) (xp4 : Int32) (xp5 : Int32) (h : Hp) (kc ks : Nat) {Q : Int32 → Hp → Prop} (hm : m_X12_send E a0 xp1 xp2 xp3 xp4 xp5 h kc ks Q) : XMet l yX12_send cX12_send 11 (some .boolean) 1 25 kc ks D E h [.ref a0, .int xp1, .int xp2, .int xp3, .int xp4, .int xp5] (fun A => va_Qi Q (XPost D A) A) := by
  refine xm_of (lv0 := [(0, .ref a0), (1, .int xp1), (2, .int xp2), (3, .int xp3), (4, .int xp4), (5, .int xp5)]) (by decide) (Nat.le_of_ble_eq_true rfl) rfl RX12 rfl (fun p e s m args below meth c A R hRm C hr hlk hnm => ?_)
  have hR : R.frames = 1 ∧ R.locals = 25 := by rw [hRm]; exact ⟨rfl, rfl⟩
  refine xr_aload_n (r := (some a0)) C dX12_send_0 0 rfl ?_
  obtain ⟨fs1, x2, e1, f1, hm⟩ := hm
  refine xr_get (ci := 13) C 6 e1 f1 rfl inX12 (by decide) wd_713 dX12_send_1 ?_
  refine xr_bipush (v := 60) C dX12_send_4 rfl ?_
  refine xr_icmp_ne (tgt := 11) C dX12_send_6 (by decide) (fun q3 => ?_) (fun q3 => ?_)
  · replace hm := hm.2 q3
    refine xr_bipush (v := 64) C dX12_send_11 rfl ?_
    refine xr_aload_n (r := (some a0)) C dX12_send_13 0 rfl ?_
    obtain ⟨fs4, x5, e4, f4, hm⟩ := hm
    refine xr_get (ci := 13) C 6 e4 f4 rfl inX12 (by decide) wd_713 dX12_send_14 ?_
    refine xr_imul C dX12_send_17 ?_
    refine xr_istore (lv' := [(6, .int (64 * x5)), (0, .ref a0), (1, .int xp1), (2, .int xp2), (3, .int xp3), (4, .int xp4), (5, .int xp5)]) C dX12_send_18 (by decide) rfl ?_
    refine xr_aload_n (r := (some a0)) C dX12_send_20 1 rfl ?_
    obtain ⟨fs6, r7, e6, f6, hm⟩ := hm
    refine xr_get (ci := 13) C 12 e6 f6 rfl inX12 (by decide) wd_665 dX12_send_21 ?_
    refine xr_iload C dX12_send_24 0 rfl ?_
    refine xr_iload_n C dX12_send_26 2 rfl ?_
    obtain ⟨a9, rfl, hm⟩ := hm
    obtain ⟨N8, f8, e8, b8, h10, v8, hm⟩ := hm
    refine xr_iast C 0 rfl e8 b8 v8 dX12_send_27 ?_
    refine xr_iconst (v := 1) C dX12_send_28 rfl ?_
    refine xr_istore (lv' := [(7, .int 1), (6, .int (64 * x5)), (0, .ref a0), (1, .int xp1), (2, .int xp2), (3, .int xp3), (4, .int xp4), (5, .int xp5)]) C dX12_send_29 (by decide) rfl ?_
    refine xr_iconst (v := 1) C dX12_send_31 rfl ?_
    refine xr_istore (lv' := [(8, .int 1), (7, .int 1), (6, .int (64 * x5)), (0, .ref a0), (1, .int xp1), (2, .int xp2), (3, .int xp3), (4, .int xp4), (5, .int xp5)]) C dX12_send_32 (by decide) rfl ?_
    obtain ⟨n11, hm⟩ := hm
    refine xr_sub [3, 4, 5, 6, 7, 8, 2, 1, 0] rfl ?_
    exact k_X12_send_L34 C hr hlk hnm hR n11 a0 xp1 xp2 xp3 xp4 xp5 (64 * x5) 1 1 _ _ _ hm
  · replace hm := hm.1 q3
    refine xr_iconst (v := 0) C dX12_send_9 rfl ?_
    exact xr_zreturn C hr hlk (Or.inl rfl) hm dX12_send_10
set_option maxRecDepth 100000 in
set_option maxHeartbeats 4000000 in
theorem c_X12_isMessage {l : Launch} {D : va_G} {E : Ev} (a0 : Nat) (xp1 : Int32) (h : Hp) (kc ks : Nat) {Q : Int32 → Hp → Prop} (hm : m_X12_isMessage E a0 xp1 h kc ks Q) : XMet l yX12_isMessage cX12_isMessage 2 (some .boolean) 0 0 kc ks D E h [.ref a0, .int xp1] (fun A => va_Qi Q (XPost D A) A) := by
  refine xm_of (lv0 := [(0, .ref a0), (1, .int xp1)]) (by decide) (Nat.le_of_ble_eq_true rfl) rfl RX12 rfl (fun p e s m args below meth c A R hRm C hr hlk hnm => ?_)
  have hR : R.frames = 0 ∧ R.locals = 0 := by rw [hRm]; exact ⟨rfl, rfl⟩
  refine xr_iload_n C dX12_isMessage_0 1 rfl ?_
  refine xr_if_lt (tgt := 16) C dX12_isMessage_1 (by decide) (fun q1 => ?_) (fun q1 => ?_)
  · replace hm := hm.1 q1
    refine xr_iconst (v := 0) C dX12_isMessage_16 rfl ?_
    exact xr_zreturn C hr hlk (Or.inl rfl) hm dX12_isMessage_17
  · replace hm := hm.2 q1
    refine xr_iload_n C dX12_isMessage_4 1 rfl ?_
    refine xr_aload_n (r := (some a0)) C dX12_isMessage_5 0 rfl ?_
    obtain ⟨fs2, x3, e2, f2, hm⟩ := hm
    refine xr_get (ci := 13) C 6 e2 f2 rfl inX12 (by decide) wd_713 dX12_isMessage_6 ?_
    refine xr_icmp_ge (tgt := 16) C dX12_isMessage_9 (by decide) (fun q4 => ?_) (fun q4 => ?_)
    · replace hm := hm.1 q4
      refine xr_iconst (v := 0) C dX12_isMessage_16 rfl ?_
      exact xr_zreturn C hr hlk (Or.inl rfl) hm dX12_isMessage_17
    · replace hm := hm.2 q4
      refine xr_iconst (v := 1) C dX12_isMessage_12 rfl ?_
      refine xr_goto (tgt := 17) C dX12_isMessage_13 (by decide) ?_
      exact xr_zreturn C hr hlk (Or.inr rfl) hm dX12_isMessage_17
set_option maxRecDepth 100000 in
set_option maxHeartbeats 4000000 in
theorem k_X12_remove_L92 {p : Program} {l : Launch} {e : Env} {R : Room} {s : State} {m : MethodId} {args : Array Value} {below : List Frame} {meth : Method} {c : Code} {D : va_G} {E : Ev} {A : Nat → Prop} {KC KS : Nat} (C : XC p R s m args c D E A 4 RX12 cX12_remove KC KS) (hr : meth.sig.returnType = none) (hlk : meth.locks = false) (hnm : meth.name = "remove") (hR : R.frames = 0 ∧ R.locals = 0) {K12 : Nat → Int32 → Hp → Nat → Nat → Prop} {Q : Hp → Prop} (hK12 : ∀ (a0 : Nat) (xv2 : Int32) (h : Hp) (kc ks : Nat), K12 a0 xv2 h kc ks → XW p l e R s m args below meth c (MQ below (va_Qv Q (XPost D A) A) args s KC KS A) D A KC KS 4 h kc ks [(0, .ref a0), (2, .int xv2)] 12 []) : ∀ (n : Nat) (a0 : Nat) (xv2 : Int32) (xv3 : Int32) (h : Hp) (kc ks : Nat), m_X12_remove_L92 n E a0 xv2 xv3 h kc ks K12 Q → XW p l e R s m args below meth c (MQ below (va_Qv Q (XPost D A) A) args s KC KS A) D A KC KS 4 h kc ks [(0, .ref a0), (2, .int xv2), (3, .int xv3)] 92 [] := by
  intro n
  induction n with
  | zero => intro a0 xv2 xv3 h kc ks hm; exact False.elim hm
  | succ n ih =>
    intro a0 xv2 xv3 h kc ks hm
    refine xr_iload_n C dX12_remove_92 2 rfl ?_
    refine xr_bipush (v := 64) C dX12_remove_93 rfl ?_
    refine xr_icmp_ge (tgt := 128) C dX12_remove_95 (by decide) (fun q60 => ?_) (fun q60 => ?_)
    · replace hm := hm.1 q60
      refine xr_iinc (j := 1) (v := xv2 + 1) (lv' := [(2, .int (xv2 + 1)), (0, .ref a0), (3, .int xv3)]) C dX12_remove_128 rfl rfl (by decide) rfl ?_
      refine xr_goto (tgt := 12) C dX12_remove_131 (by decide) ?_
      refine xr_sub [1, 0] rfl ?_
      exact hK12 a0 (xv2 + 1) _ _ _ hm
    · replace hm := hm.2 q60
      refine xr_aload_n (r := (some a0)) C dX12_remove_98 0 rfl ?_
      obtain ⟨fs61, r62, e61, f61, hm⟩ := hm
      refine xr_get (ci := 13) C 12 e61 f61 rfl inX12 (by decide) wd_665 dX12_remove_99 ?_
      refine xr_bipush (v := 64) C dX12_remove_102 rfl ?_
      refine xr_iload_n C dX12_remove_104 1 rfl ?_
      refine xr_imul C dX12_remove_105 ?_
      refine xr_iload_n C dX12_remove_106 2 rfl ?_
      refine xr_iadd C dX12_remove_107 ?_
      refine xr_aload_n (r := (some a0)) C dX12_remove_108 0 rfl ?_
      obtain ⟨fs63, r64, e63, f63, hm⟩ := hm
      refine xr_get (ci := 13) C 12 e63 f63 rfl inX12 (by decide) wd_665 dX12_remove_109 ?_
      refine xr_bipush (v := 64) C dX12_remove_112 rfl ?_
      refine xr_iload_n C dX12_remove_114 1 rfl ?_
      refine xr_iconst (v := 1) C dX12_remove_115 rfl ?_
      refine xr_iadd C dX12_remove_116 ?_
      refine xr_imul C dX12_remove_117 ?_
      refine xr_iload_n C dX12_remove_118 2 rfl ?_
      refine xr_iadd C dX12_remove_119 ?_
      obtain ⟨a66, rfl, hm⟩ := hm
      obtain ⟨N65, f65, x67, e65, b65, v65, hm⟩ := hm
      refine xr_iald C 0 rfl e65 b65 v65 dX12_remove_120 ?_
      obtain ⟨a69, rfl, hm⟩ := hm
      obtain ⟨N68, f68, e68, b68, h70, v68, hm⟩ := hm
      refine xr_iast C 0 rfl e68 b68 v68 dX12_remove_121 ?_
      refine xr_iinc (j := 2) (v := xv3 + 1) (lv' := [(3, .int (xv3 + 1)), (0, .ref a0), (2, .int xv2)]) C dX12_remove_122 rfl rfl (by decide) rfl ?_
      refine xr_goto (tgt := 92) C dX12_remove_125 (by decide) ?_
      refine xr_sub [1, 2, 0] rfl ?_
      exact ih a0 xv2 (xv3 + 1) _ _ _ hm
set_option maxRecDepth 100000 in
set_option maxHeartbeats 4000000 in
theorem k_X12_remove_L12 {p : Program} {l : Launch} {e : Env} {R : Room} {s : State} {m : MethodId} {args : Array Value} {below : List Frame} {meth : Method} {c : Code} {D : va_G} {E : Ev} {A : Nat → Prop} {KC KS : Nat} (C : XC p R s m args c D E A 4 RX12 cX12_remove KC KS) (hr : meth.sig.returnType = none) (hlk : meth.locks = false) (hnm : meth.name = "remove") (hR : R.frames = 0 ∧ R.locals = 0) {Q : Hp → Prop} : ∀ (n : Nat) (a0 : Nat) (xv2 : Int32) (h : Hp) (kc ks : Nat), m_X12_remove_L12 n E a0 xv2 h kc ks Q → XW p l e R s m args below meth c (MQ below (va_Qv Q (XPost D A) A) args s KC KS A) D A KC KS 4 h kc ks [(0, .ref a0), (2, .int xv2)] 12 [] := by
  intro n
  induction n with
  | zero => intro a0 xv2 h kc ks hm; exact False.elim hm
  | succ n ih =>
    intro a0 xv2 h kc ks hm
    refine xr_iload_n C dX12_remove_12 1 rfl ?_
    refine xr_aload_n (r := (some a0)) C dX12_remove_13 0 rfl ?_
    obtain ⟨fs6, x7, e6, f6, hm⟩ := hm
    refine xr_get (ci := 13) C 6 e6 f6 rfl inX12 (by decide) wd_713 dX12_remove_14 ?_
    refine xr_icmp_ge (tgt := 134) C dX12_remove_17 (by decide) (fun q8 => ?_) (fun q8 => ?_)
    · replace hm := hm.1 q8
      exact xr_vreturn C hr hlk hm dX12_remove_134
    · replace hm := hm.2 q8
      refine xr_aload_n (r := (some a0)) C dX12_remove_20 0 rfl ?_
      obtain ⟨fs9, r10, e9, f9, hm⟩ := hm
      refine xr_get (ci := 13) C 7 e9 f9 rfl inX12 (by decide) wd_660 dX12_remove_21 ?_
      refine xr_iload_n C dX12_remove_24 1 rfl ?_
      refine xr_aload_n (r := (some a0)) C dX12_remove_25 0 rfl ?_
      obtain ⟨fs11, r12, e11, f11, hm⟩ := hm
      refine xr_get (ci := 13) C 7 e11 f11 rfl inX12 (by decide) wd_660 dX12_remove_26 ?_
      refine xr_iload_n C dX12_remove_29 1 rfl ?_
      refine xr_iconst (v := 1) C dX12_remove_30 rfl ?_
      refine xr_iadd C dX12_remove_31 ?_
      obtain ⟨a14, rfl, hm⟩ := hm
      obtain ⟨N13, f13, x15, e13, b13, v13, hm⟩ := hm
      refine xr_iald C 0 rfl e13 b13 v13 dX12_remove_32 ?_
      obtain ⟨a17, rfl, hm⟩ := hm
      obtain ⟨N16, f16, e16, b16, h18, v16, hm⟩ := hm
      refine xr_iast C 0 rfl e16 b16 v16 dX12_remove_33 ?_
      refine xr_aload_n (r := (some a0)) C dX12_remove_34 0 rfl ?_
      obtain ⟨fs19, r20, e19, f19, hm⟩ := hm
      refine xr_get (ci := 13) C 8 e19 f19 rfl inX12 (by decide) wd_661 dX12_remove_35 ?_
      refine xr_iload_n C dX12_remove_38 1 rfl ?_
      refine xr_aload_n (r := (some a0)) C dX12_remove_39 0 rfl ?_
      obtain ⟨fs21, r22, e21, f21, hm⟩ := hm
      refine xr_get (ci := 13) C 8 e21 f21 rfl inX12 (by decide) wd_661 dX12_remove_40 ?_
      refine xr_iload_n C dX12_remove_43 1 rfl ?_
      refine xr_iconst (v := 1) C dX12_remove_44 rfl ?_
      refine xr_iadd C dX12_remove_45 ?_
      obtain ⟨a24, rfl, hm⟩ := hm
      obtain ⟨N23, f23, x25, e23, b23, v23, hm⟩ := hm
      refine xr_iald C 0 rfl e23 b23 v23 dX12_remove_46 ?_
      obtain ⟨a27, rfl, hm⟩ := hm
      obtain ⟨N26, f26, e26, b26, h28, v26, hm⟩ := hm
      refine xr_iast C 0 rfl e26 b26 v26 dX12_remove_47 ?_
      refine xr_aload_n (r := (some a0)) C dX12_remove_48 0 rfl ?_
      obtain ⟨fs29, r30, e29, f29, hm⟩ := hm
      refine xr_get (ci := 13) C 9 e29 f29 rfl inX12 (by decide) wd_662 dX12_remove_49 ?_
      refine xr_iload_n C dX12_remove_52 1 rfl ?_
      refine xr_aload_n (r := (some a0)) C dX12_remove_53 0 rfl ?_
      obtain ⟨fs31, r32, e31, f31, hm⟩ := hm
      refine xr_get (ci := 13) C 9 e31 f31 rfl inX12 (by decide) wd_662 dX12_remove_54 ?_
      refine xr_iload_n C dX12_remove_57 1 rfl ?_
      refine xr_iconst (v := 1) C dX12_remove_58 rfl ?_
      refine xr_iadd C dX12_remove_59 ?_
      obtain ⟨a34, rfl, hm⟩ := hm
      obtain ⟨N33, f33, x35, e33, b33, v33, hm⟩ := hm
      refine xr_iald C 0 rfl e33 b33 v33 dX12_remove_60 ?_
      obtain ⟨a37, rfl, hm⟩ := hm
      obtain ⟨N36, f36, e36, b36, h38, v36, hm⟩ := hm
      refine xr_iast C 0 rfl e36 b36 v36 dX12_remove_61 ?_
      refine xr_aload_n (r := (some a0)) C dX12_remove_62 0 rfl ?_
      obtain ⟨fs39, r40, e39, f39, hm⟩ := hm
      refine xr_get (ci := 13) C 10 e39 f39 rfl inX12 (by decide) wd_663 dX12_remove_63 ?_
      refine xr_iload_n C dX12_remove_66 1 rfl ?_
      refine xr_aload_n (r := (some a0)) C dX12_remove_67 0 rfl ?_
      obtain ⟨fs41, r42, e41, f41, hm⟩ := hm
      refine xr_get (ci := 13) C 10 e41 f41 rfl inX12 (by decide) wd_663 dX12_remove_68 ?_
      refine xr_iload_n C dX12_remove_71 1 rfl ?_
      refine xr_iconst (v := 1) C dX12_remove_72 rfl ?_
      refine xr_iadd C dX12_remove_73 ?_
      obtain ⟨a44, rfl, hm⟩ := hm
      obtain ⟨N43, f43, x45, e43, b43, v43, hm⟩ := hm
      refine xr_iald C 0 rfl e43 b43 v43 dX12_remove_74 ?_
      obtain ⟨a47, rfl, hm⟩ := hm
      obtain ⟨N46, f46, e46, b46, h48, v46, hm⟩ := hm
      refine xr_iast C 0 rfl e46 b46 v46 dX12_remove_75 ?_
      refine xr_aload_n (r := (some a0)) C dX12_remove_76 0 rfl ?_
      obtain ⟨fs49, r50, e49, f49, hm⟩ := hm
      refine xr_get (ci := 13) C 11 e49 f49 rfl inX12 (by decide) wd_664 dX12_remove_77 ?_
      refine xr_iload_n C dX12_remove_80 1 rfl ?_
      refine xr_aload_n (r := (some a0)) C dX12_remove_81 0 rfl ?_
      obtain ⟨fs51, r52, e51, f51, hm⟩ := hm
      refine xr_get (ci := 13) C 11 e51 f51 rfl inX12 (by decide) wd_664 dX12_remove_82 ?_
      refine xr_iload_n C dX12_remove_85 1 rfl ?_
      refine xr_iconst (v := 1) C dX12_remove_86 rfl ?_
      refine xr_iadd C dX12_remove_87 ?_
      obtain ⟨a54, rfl, hm⟩ := hm
      obtain ⟨N53, f53, x55, e53, b53, v53, hm⟩ := hm
      refine xr_iald C 0 rfl e53 b53 v53 dX12_remove_88 ?_
      obtain ⟨a57, rfl, hm⟩ := hm
      obtain ⟨N56, f56, e56, b56, h58, v56, hm⟩ := hm
      refine xr_iast C 0 rfl e56 b56 v56 dX12_remove_89 ?_
      refine xr_iconst (v := 0) C dX12_remove_90 rfl ?_
      refine xr_istore_n (lv' := [(3, .int 0), (0, .ref a0), (2, .int xv2)]) C dX12_remove_91 (by decide) rfl ?_
      obtain ⟨n59, hm⟩ := hm
      refine xr_sub [1, 2, 0] rfl ?_
      exact k_X12_remove_L92 C hr hlk hnm hR ih n59 a0 xv2 0 _ _ _ hm
set_option maxRecDepth 100000 in
set_option maxHeartbeats 4000000 in
theorem c_X12_remove {l : Launch} {D : va_G} {E : Ev} (a0 : Nat) (xp1 : Int32) (h : Hp) (kc ks : Nat) {Q : Hp → Prop} (hm : m_X12_remove E a0 xp1 h kc ks Q) : XMet l yX12_remove cX12_remove 4 none 0 0 kc ks D E h [.ref a0, .int xp1] (fun A => va_Qv Q (XPost D A) A) := by
  refine xm_of (lv0 := [(0, .ref a0), (1, .int xp1)]) (by decide) (Nat.le_of_ble_eq_true rfl) rfl RX12 rfl (fun p e s m args below meth c A R hRm C hr hlk hnm => ?_)
  have hR : R.frames = 0 ∧ R.locals = 0 := by rw [hRm]; exact ⟨rfl, rfl⟩
  refine xr_aload_n (r := (some a0)) C dX12_remove_0 0 rfl ?_
  refine xr_dup C dX12_remove_1 rfl ?_
  obtain ⟨fs1, x2, e1, f1, hm⟩ := hm
  refine xr_get (ci := 13) C 6 e1 f1 rfl inX12 (by decide) wd_713 dX12_remove_2 ?_
  refine xr_iconst (v := 1) C dX12_remove_5 rfl ?_
  refine xr_isub C dX12_remove_6 ?_
  obtain ⟨fs3, e3, f3, h4, eh3, hm⟩ := hm
  refine xr_put (ci := 13) (v := .int (x2 - 1)) C 6 .int tyX12 tyX12_ok nmX12 e3 f3 rfl inX12 (by decide) wd_713 rfl (by decide) rfl rfl eh3 dX12_remove_7 ?_
  refine xr_iload_n C dX12_remove_10 1 rfl ?_
  refine xr_istore_n (lv' := [(2, .int xp1), (0, .ref a0), (1, .int xp1)]) C dX12_remove_11 (by decide) rfl ?_
  obtain ⟨n5, hm⟩ := hm
  refine xr_sub [1, 0] rfl ?_
  exact k_X12_remove_L12 C hr hlk hnm hR n5 a0 xp1 _ _ _ hm
