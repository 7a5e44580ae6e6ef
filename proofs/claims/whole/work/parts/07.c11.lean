set_option maxRecDepth 100000 in
set_option maxHeartbeats 4000000 in
theorem c_X12_power {l : Launch} {D : va_G} {E : Ev} (a0 : Nat) (xp1 : Int32) (xp2 : Int32) (h : Hp) (kc ks : Nat) {Q : Int32 → Hp → Prop} (hm : m_X12_power E a0 xp1 xp2 h kc ks Q) : XMet l yX12_power cX12_power 3 (some .boolean) 1 25 kc ks D E h [.ref a0, .int xp1, .int xp2] (fun A => va_Qi Q (XPost D A) A) := by
  refine xm_of (lv0 := [(0, .ref a0), (1, .int xp1), (2, .int xp2)]) (by decide) (Nat.le_of_ble_eq_true rfl) rfl RX12 rfl (fun p e s m args below meth c A R hRm C hr hlk hnm => ?_)
  have hR : R.frames = 1 ∧ R.locals = 25 := by rw [hRm]; exact ⟨rfl, rfl⟩
  refine xr_iload_n C dX12_power_0 1 rfl ?_
  refine xr_if_lt (tgt := 24) C dX12_power_1 (by decide) (fun q1 => ?_) (fun q1 => ?_)
  · replace hm := hm.1 q1
    refine xr_iconst (v := 0) C dX12_power_24 rfl ?_
    exact xr_zreturn C hr hlk (Or.inl rfl) hm dX12_power_25
  · replace hm := hm.2 q1
    refine xr_iload_n C dX12_power_4 1 rfl ?_
    refine xr_aload_n (r := (some a0)) C dX12_power_5 0 rfl ?_
    obtain ⟨fs2, x3, e2, f2, hm⟩ := hm
    refine xr_get (ci := 13) C 21 e2 f2 rfl inX12 (by decide) wd_779 dX12_power_6 ?_
    refine xr_icmp_ge (tgt := 24) C dX12_power_9 (by decide) (fun q4 => ?_) (fun q4 => ?_)
    · replace hm := hm.1 q4
      refine xr_iconst (v := 0) C dX12_power_24 rfl ?_
      exact xr_zreturn C hr hlk (Or.inl rfl) hm dX12_power_25
    · replace hm := hm.2 q4
      refine xr_iload_n C dX12_power_12 2 rfl ?_
      refine xr_i2l (v := xp2.toInt64) C dX12_power_13 rfl ?_
      refine xr_lconst (v := 0) C dX12_power_14 rfl ?_
      refine xr_ldc2 (v := 9) C dX12_power_15 wd_849 ?_
      refine xr_cSi (n := 3) (As := [.long xp2.toInt64, .long 0, .long 9]) (st := []) C (c_X12_isIn xp2.toInt64 0 9 h 0 0 hm) wd_851 wd_853 wd_712 wd_852 (by decide +kernel) rfl (by rw [hR.1, hR.2]; decide) (Nat.zero_add _).symm (Nat.zero_add _).symm rfl (Nat.le_of_ble_eq_true rfl) dX12_power_18 (fun x6 h7 hn => ?_)
      clear hm
      have hm := hn
      clear hn
      refine xr_if_ne (tgt := 26) C dX12_power_21 (by decide) (fun q8 => ?_) (fun q8 => ?_)
      · replace hm := hm.2 q8
        refine xr_aload_n (r := (some a0)) C dX12_power_26 0 rfl ?_
        obtain ⟨fs9, r10, e9, f9, hm⟩ := hm
        refine xr_get (ci := 13) C 35 e9 f9 rfl inX12 (by decide) wd_683 dX12_power_27 ?_
        refine xr_iload_n C dX12_power_30 1 rfl ?_
        refine xr_iload_n C dX12_power_31 2 rfl ?_
        obtain ⟨a12, rfl, hm⟩ := hm
        obtain ⟨N11, f11, e11, b11, h13, v11, hm⟩ := hm
        refine xr_iast C 0 rfl e11 b11 v11 dX12_power_32 ?_
        refine xr_iconst (v := 1) C dX12_power_33 rfl ?_
        exact xr_zreturn C hr hlk (Or.inr rfl) hm dX12_power_34
      · replace hm := hm.1 q8
        refine xr_iconst (v := 0) C dX12_power_24 rfl ?_
        exact xr_zreturn C hr hlk (Or.inl rfl) hm dX12_power_25
set_option maxRecDepth 100000 in
set_option maxHeartbeats 4000000 in
theorem k_X12_tick_L73 {p : Program} {l : Launch} {e : Env} {R : Room} {s : State} {m : MethodId} {args : Array Value} {below : List Frame} {meth : Method} {c : Code} {D : va_G} {E : Ev} {A : Nat → Prop} {KC KS : Nat} (C : XC p R s m args c D E A 4 RX12 cX12_tick KC KS) (hr : meth.sig.returnType = (some .int)) (hlk : meth.locks = false) (hnm : meth.name = "tick") (hR : R.frames = 1 ∧ R.locals = 25) {K29 : Nat → Int32 → Int32 → Hp → Nat → Nat → Prop} {Q : Int32 → Hp → Prop} (hK29 : ∀ (a0 : Nat) (xv2 : Int32) (xv3 : Int32) (h : Hp) (kc ks : Nat), K29 a0 xv2 xv3 h kc ks → XW p l e R s m args below meth c (MQ below (va_Qi Q (XPost D A) A) args s KC KS A) D A KC KS 4 h kc ks [(0, .ref a0), (2, .int xv2), (3, .int xv3)] 29 []) : ∀ (a0 : Nat) (xv2 : Int32) (xv3 : Int32) (h : Hp) (kc ks : Nat), m_X12_tick_L73 E a0 xv2 xv3 h kc ks K29 Q → XW p l e R s m args below meth c (MQ below (va_Qi Q (XPost D A) A) args s KC KS A) D A KC KS 4 h kc ks [(0, .ref a0), (2, .int xv2), (3, .int xv3)] 73 [] := by
  intro a0 xv2 xv3 h kc ks hm
  refine xr_iinc (j := 2) (v := xv3 + 1) (lv' := [(3, .int (xv3 + 1)), (0, .ref a0), (2, .int xv2)]) C dX12_tick_73 rfl rfl (by decide) rfl ?_
  refine xr_goto (tgt := 29) C dX12_tick_76 (by decide) ?_
  refine xr_sub [1, 2, 0] rfl ?_
  exact hK29 a0 xv2 (xv3 + 1) _ _ _ hm
set_option maxRecDepth 100000 in
set_option maxHeartbeats 4000000 in
theorem k_X12_tick_L29 {p : Program} {l : Launch} {e : Env} {R : Room} {s : State} {m : MethodId} {args : Array Value} {below : List Frame} {meth : Method} {c : Code} {D : va_G} {E : Ev} {A : Nat → Prop} {KC KS : Nat} (C : XC p R s m args c D E A 4 RX12 cX12_tick KC KS) (hr : meth.sig.returnType = (some .int)) (hlk : meth.locks = false) (hnm : meth.name = "tick") (hR : R.frames = 1 ∧ R.locals = 25) {Q : Int32 → Hp → Prop} : ∀ (n : Nat) (a0 : Nat) (xv2 : Int32) (xv3 : Int32) (h : Hp) (kc ks : Nat), m_X12_tick_L29 n E a0 xv2 xv3 h kc ks Q → XW p l e R s m args below meth c (MQ below (va_Qi Q (XPost D A) A) args s KC KS A) D A KC KS 4 h kc ks [(0, .ref a0), (2, .int xv2), (3, .int xv3)] 29 [] := by
  intro n
  induction n with
  | zero => intro a0 xv2 xv3 h kc ks hm; exact False.elim hm
  | succ n ih =>
    intro a0 xv2 xv3 h kc ks hm
    refine xr_iload_n C dX12_tick_29 2 rfl ?_
    refine xr_aload_n (r := (some a0)) C dX12_tick_30 0 rfl ?_
    obtain ⟨fs10, x11, e10, f10, hm⟩ := hm
    refine xr_get (ci := 13) C 36 e10 f10 rfl inX12 (by decide) wd_809 dX12_tick_31 ?_
    refine xr_icmp_ge (tgt := 79) C dX12_tick_34 (by decide) (fun q12 => ?_) (fun q12 => ?_)
    · replace hm := hm.1 q12
      refine xr_iload_n C dX12_tick_79 1 rfl ?_
      exact xr_ireturn C hr hlk hm dX12_tick_80
    · replace hm := hm.2 q12
      refine xr_aload_n (r := (some a0)) C dX12_tick_37 0 rfl ?_
      obtain ⟨fs13, r14, e13, f13, hm⟩ := hm
      refine xr_get (ci := 13) C 41 e13 f13 rfl inX12 (by decide) wd_688 dX12_tick_38 ?_
      refine xr_iload_n C dX12_tick_41 2 rfl ?_
      obtain ⟨a16, rfl, hm⟩ := hm
      obtain ⟨N15, f15, x17, e15, b15, v15, hm⟩ := hm
      refine xr_iald C 0 rfl e15 b15 v15 dX12_tick_42 ?_
      refine xr_if_eq (tgt := 73) C dX12_tick_43 (by decide) (fun q18 => ?_) (fun q18 => ?_)
      · replace hm := hm.1 q18
        exact k_X12_tick_L73 C hr hlk hnm hR ih a0 xv2 xv3 _ _ _ hm
      · replace hm := hm.2 q18
        refine xr_aload_n (r := (some a0)) C dX12_tick_46 0 rfl ?_
        obtain ⟨fs19, y20, e19, f19, hm⟩ := hm
        refine xr_get (ci := 13) C 52 e19 f19 rfl inX12 (by decide) wd_774 dX12_tick_47 ?_
        refine xr_aload_n (r := (some a0)) C dX12_tick_50 0 rfl ?_
        obtain ⟨fs21, r22, e21, f21, hm⟩ := hm
        refine xr_get (ci := 13) C 42 e21 f21 rfl inX12 (by decide) wd_689 dX12_tick_51 ?_
        refine xr_iload_n C dX12_tick_54 2 rfl ?_
        obtain ⟨a24, rfl, hm⟩ := hm
        obtain ⟨N23, f23, y25, e23, b23, v23, hm⟩ := hm
        refine xr_lald C 1 rfl e23 b23 v23 dX12_tick_55 ?_
        refine xr_lsub C dX12_tick_56 ?_
        refine xr_ldc2 (v := 20) C dX12_tick_57 wd_865 ?_
        refine xr_lcmp C dX12_tick_60 ?_
        refine xr_if_le (tgt := 73) C dX12_tick_61 (by decide) (fun q26 => ?_) (fun q26 => ?_)
        · replace hm := hm.1 q26
          exact k_X12_tick_L73 C hr hlk hnm hR ih a0 xv2 xv3 _ _ _ hm
        · replace hm := hm.2 q26
          refine xr_aload_n (r := (some a0)) C dX12_tick_64 0 rfl ?_
          refine xr_iload_n C dX12_tick_65 2 rfl ?_
          refine xr_iconst (v := 4) C dX12_tick_66 rfl ?_
          obtain ⟨⟨fs27, e27⟩, hm⟩ := hm
          refine xr_cVv (n := 2) (As := [.int xv3, .int 4]) (st := []) C (c_X12_end a0 xv3 4 h 0 0 hm) e27 rfl wd_784 wd_786 wd_787 wd_712 wd_785 (by decide +kernel) rfl (by rw [hR.1, hR.2]; decide) (Nat.zero_add _).symm (Nat.zero_add _).symm rfl (Nat.le_of_ble_eq_true rfl) dX12_tick_67 (fun h29 hn => ?_)
          clear hm
          have hm := hn
          clear hn
          refine xr_iinc (j := 1) (v := xv2 + 1) (lv' := [(2, .int (xv2 + 1)), (0, .ref a0), (3, .int xv3)]) C dX12_tick_70 rfl rfl (by decide) rfl ?_
          refine xr_sub [1, 0, 2] rfl ?_
          exact k_X12_tick_L73 C hr hlk hnm hR ih a0 (xv2 + 1) xv3 _ _ _ hm
set_option maxRecDepth 100000 in
set_option maxHeartbeats 4000000 in
theorem c_X12_tick {l : Launch} {D : va_G} {E : Ev} (a0 : Nat) (xp1 : Int32) (h : Hp) (kc ks : Nat) {Q : Int32 → Hp → Prop} (hm : m_X12_tick E a0 xp1 h kc ks Q) : XMet l yX12_tick cX12_tick 4 (some .int) 1 25 kc ks D E h [.ref a0, .int xp1] (fun A => va_Qi Q (XPost D A) A) := by
  refine xm_of (lv0 := [(0, .ref a0), (1, .int xp1)]) (by decide) (Nat.le_of_ble_eq_true rfl) rfl RX12 rfl (fun p e s m args below meth c A R hRm C hr hlk hnm => ?_)
  have hR : R.frames = 1 ∧ R.locals = 25 := by rw [hRm]; exact ⟨rfl, rfl⟩
  refine xr_iload_n C dX12_tick_0 1 rfl ?_
  refine xr_i2l (v := xp1.toInt64) C dX12_tick_1 rfl ?_
  refine xr_lconst (v := 1) C dX12_tick_2 rfl ?_
  refine xr_ldc2 (v := 100) C dX12_tick_3 wd_864 ?_
  refine xr_cSi (n := 3) (As := [.long xp1.toInt64, .long 1, .long 100]) (st := []) C (c_X12_isIn xp1.toInt64 1 100 h 0 0 hm) wd_851 wd_853 wd_712 wd_852 (by decide +kernel) rfl (by rw [hR.1, hR.2]; decide) (Nat.zero_add _).symm (Nat.zero_add _).symm rfl (Nat.le_of_ble_eq_true rfl) dX12_tick_6 (fun x2 h3 hn => ?_)
  clear hm
  have hm := hn
  clear hn
  refine xr_if_ne (tgt := 14) C dX12_tick_9 (by decide) (fun q4 => ?_) (fun q4 => ?_)
  · replace hm := hm.2 q4
    refine xr_aload_n (r := (some a0)) C dX12_tick_14 0 rfl ?_
    refine xr_dup C dX12_tick_15 rfl ?_
    obtain ⟨fs5, y6, e5, f5, hm⟩ := hm
    refine xr_get (ci := 13) C 52 e5 f5 rfl inX12 (by decide) wd_774 dX12_tick_16 ?_
    refine xr_iload_n C dX12_tick_19 1 rfl ?_
    refine xr_i2l (v := xp1.toInt64) C dX12_tick_20 rfl ?_
    refine xr_ladd C dX12_tick_21 ?_
    obtain ⟨fs7, e7, f7, h8, eh7, hm⟩ := hm
    refine xr_put (ci := 13) (v := .long (y6 + xp1.toInt64)) C 52 .long tyX12 tyX12_ok nmX12 e7 f7 rfl inX12 (by decide) wd_774 rfl (by decide) rfl rfl eh7 dX12_tick_22 ?_
    refine xr_iconst (v := 0) C dX12_tick_25 rfl ?_
    refine xr_istore_n (lv' := [(2, .int 0), (0, .ref a0), (1, .int xp1)]) C dX12_tick_26 (by decide) rfl ?_
    refine xr_iconst (v := 0) C dX12_tick_27 rfl ?_
    refine xr_istore_n (lv' := [(3, .int 0), (2, .int 0), (0, .ref a0), (1, .int xp1)]) C dX12_tick_28 (by decide) rfl ?_
    obtain ⟨n9, hm⟩ := hm
    refine xr_sub [2, 1, 0] rfl ?_
    exact k_X12_tick_L29 C hr hlk hnm hR n9 a0 0 0 _ _ _ hm
  · replace hm := hm.1 q4
    refine xr_iconst (v := (-1)) C dX12_tick_12 rfl ?_
    exact xr_ireturn C hr hlk hm dX12_tick_13
set_option maxRecDepth 100000 in
set_option maxHeartbeats 4000000 in
theorem k_X12_clear_L82 {p : Program} {l : Launch} {e : Env} {R : Room} {s : State} {m : MethodId} {args : Array Value} {below : List Frame} {meth : Method} {c : Code} {D : va_G} {E : Ev} {A : Nat → Prop} {KC KS : Nat} (C : XC p R s m args c D E A 5 RX12 cX12_clear KC KS) (hr : meth.sig.returnType = (some .int)) (hlk : meth.locks = false) (hnm : meth.name = "clear") (hR : R.frames = 3 ∧ R.locals = 75) {K18 : Nat → Int32 → Int32 → Int32 → Hp → Nat → Nat → Prop} {K55 : Nat → Int32 → Int32 → Int32 → Int32 → Hp → Nat → Nat → Prop} {Q : Int32 → Hp → Prop} (hK18 : ∀ (a0 : Nat) (xv1 : Int32) (xv2 : Int32) (xv3 : Int32) (h : Hp) (kc ks : Nat), K18 a0 xv1 xv2 xv3 h kc ks → XW p l e R s m args below meth c (MQ below (va_Qi Q (XPost D A) A) args s KC KS A) D A KC KS 5 h kc ks [(0, .ref a0), (1, .int xv1), (2, .int xv2), (3, .int xv3)] 18 []) (hK55 : ∀ (a0 : Nat) (xv1 : Int32) (xv2 : Int32) (xv3 : Int32) (xv4 : Int32) (h : Hp) (kc ks : Nat), K55 a0 xv1 xv2 xv3 xv4 h kc ks → XW p l e R s m args below meth c (MQ below (va_Qi Q (XPost D A) A) args s KC KS A) D A KC KS 5 h kc ks [(0, .ref a0), (1, .int xv1), (2, .int xv2), (3, .int xv3), (4, .int xv4)] 55 []) : ∀ (a0 : Nat) (xv1 : Int32) (xv2 : Int32) (xv3 : Int32) (xv4 : Int32) (s0 : Int32) (s1 : Option Nat) (h : Hp) (kc ks : Nat), m_X12_clear_L82 E a0 xv1 xv2 xv3 xv4 s0 s1 h kc ks K18 K55 Q → XW p l e R s m args below meth c (MQ below (va_Qi Q (XPost D A) A) args s KC KS A) D A KC KS 5 h kc ks [(0, .ref a0), (1, .int xv1), (2, .int xv2), (3, .int xv3), (4, .int xv4)] 82 [.int s0, va_rf s1] := by
  intro a0 xv1 xv2 xv3 xv4 s0 s1 h kc ks hm
  refine xr_aload_n (r := (some a0)) C dX12_clear_82 0 rfl ?_
  obtain ⟨fs38, r39, e38, f38, hm⟩ := hm
  refine xr_get (ci := 13) C 56 e38 f38 rfl inX12 (by decide) wd_701 dX12_clear_83 ?_
  refine xr_bipush (v := 7) C dX12_clear_86 rfl ?_
  refine xr_iload_n C dX12_clear_88 3 rfl ?_
  refine xr_imul C dX12_clear_89 ?_
  refine xr_iload C dX12_clear_90 4 rfl ?_
  refine xr_iadd C dX12_clear_92 ?_
  obtain ⟨a41, rfl, hm⟩ := hm
  obtain ⟨N40, f40, y42, e40, b40, v40, hm⟩ := hm
  refine xr_lald C 1 rfl e40 b40 v40 dX12_clear_93 ?_
  obtain ⟨a44, rfl, hm⟩ := hm
  obtain ⟨N43, f43, e43, b43, h45, v43, hm⟩ := hm
  refine xr_last C 1 rfl e43 b43 v43 dX12_clear_94 ?_
  refine xr_iinc (j := 4) (v := xv4 + 1) (lv' := [(4, .int (xv4 + 1)), (0, .ref a0), (1, .int xv1), (2, .int xv2), (3, .int xv3)]) C dX12_clear_95 rfl rfl (by decide) rfl ?_
  refine xr_goto (tgt := 55) C dX12_clear_98 (by decide) ?_
  refine xr_sub [1, 2, 3, 4, 0] rfl ?_
  exact hK55 a0 xv1 xv2 xv3 (xv4 + 1) _ _ _ hm
set_option maxRecDepth 100000 in
set_option maxHeartbeats 4000000 in
theorem k_X12_clear_L129 {p : Program} {l : Launch} {e : Env} {R : Room} {s : State} {m : MethodId} {args : Array Value} {below : List Frame} {meth : Method} {c : Code} {D : va_G} {E : Ev} {A : Nat → Prop} {KC KS : Nat} (C : XC p R s m args c D E A 5 RX12 cX12_clear KC KS) (hr : meth.sig.returnType = (some .int)) (hlk : meth.locks = false) (hnm : meth.name = "clear") (hR : R.frames = 3 ∧ R.locals = 75) {K18 : Nat → Int32 → Int32 → Int32 → Hp → Nat → Nat → Prop} {Q : Int32 → Hp → Prop} (hK18 : ∀ (a0 : Nat) (xv1 : Int32) (xv2 : Int32) (xv3 : Int32) (h : Hp) (kc ks : Nat), K18 a0 xv1 xv2 xv3 h kc ks → XW p l e R s m args below meth c (MQ below (va_Qi Q (XPost D A) A) args s KC KS A) D A KC KS 5 h kc ks [(0, .ref a0), (1, .int xv1), (2, .int xv2), (3, .int xv3)] 18 []) : ∀ (a0 : Nat) (xv1 : Int32) (xv2 : Int32) (xv3 : Int32) (h : Hp) (kc ks : Nat), m_X12_clear_L129 E a0 xv1 xv2 xv3 h kc ks K18 Q → XW p l e R s m args below meth c (MQ below (va_Qi Q (XPost D A) A) args s KC KS A) D A KC KS 5 h kc ks [(0, .ref a0), (1, .int xv1), (2, .int xv2), (3, .int xv3)] 129 [] := by
  intro a0 xv1 xv2 xv3 h kc ks hm
  refine xr_iinc (j := 3) (v := xv3 + 1) (lv' := [(3, .int (xv3 + 1)), (0, .ref a0), (1, .int xv1), (2, .int xv2)]) C dX12_clear_129 rfl rfl (by decide) rfl ?_
  refine xr_goto (tgt := 18) C dX12_clear_132 (by decide) ?_
  refine xr_sub [1, 2, 3, 0] rfl ?_
  exact hK18 a0 xv1 xv2 (xv3 + 1) _ _ _ hm
set_option maxRecDepth 100000 in
set_option maxHeartbeats 4000000 in
theorem k_X12_clear_L127 {p : Program} {l : Launch} {e : Env} {R : Room} {s : State} {m : MethodId} {args : Array Value} {below : List Frame} {meth : Method} {c : Code} {D : va_G} {E : Ev} {A : Nat → Prop} {KC KS : Nat} (C : XC p R s m args c D E A 5 RX12 cX12_clear KC KS) (hr : meth.sig.returnType = (some .int)) (hlk : meth.locks = false) (hnm : meth.name = "clear") (hR : R.frames = 3 ∧ R.locals = 75) {K18 : Nat → Int32 → Int32 → Int32 → Hp → Nat → Nat → Prop} {Q : Int32 → Hp → Prop} (hK18 : ∀ (a0 : Nat) (xv1 : Int32) (xv2 : Int32) (xv3 : Int32) (h : Hp) (kc ks : Nat), K18 a0 xv1 xv2 xv3 h kc ks → XW p l e R s m args below meth c (MQ below (va_Qi Q (XPost D A) A) args s KC KS A) D A KC KS 5 h kc ks [(0, .ref a0), (1, .int xv1), (2, .int xv2), (3, .int xv3)] 18 []) : ∀ (a0 : Nat) (xv1 : Int32) (xv3 : Int32) (s0 : Int32) (s1 : Int32) (h : Hp) (kc ks : Nat), m_X12_clear_L127 E a0 xv1 xv3 s0 s1 h kc ks K18 Q → XW p l e R s m args below meth c (MQ below (va_Qi Q (XPost D A) A) args s KC KS A) D A KC KS 5 h kc ks [(0, .ref a0), (1, .int xv1), (3, .int xv3)] 127 [.int s0, .int s1] := by
  intro a0 xv1 xv3 s0 s1 h kc ks hm
  refine xr_iadd C dX12_clear_127 ?_
  refine xr_istore_n (lv' := [(2, .int (s1 + s0)), (0, .ref a0), (1, .int xv1), (3, .int xv3)]) C dX12_clear_128 (by decide) rfl ?_
  refine xr_sub [1, 2, 0, 3] rfl ?_
  exact k_X12_clear_L129 C hr hlk hnm hR hK18 a0 xv1 (s1 + s0) xv3 _ _ _ hm
set_option maxRecDepth 100000 in
set_option maxHeartbeats 4000000 in
theorem k_X12_clear_L55 {p : Program} {l : Launch} {e : Env} {R : Room} {s : State} {m : MethodId} {args : Array Value} {below : List Frame} {meth : Method} {c : Code} {D : va_G} {E : Ev} {A : Nat → Prop} {KC KS : Nat} (C : XC p R s m args c D E A 5 RX12 cX12_clear KC KS) (hr : meth.sig.returnType = (some .int)) (hlk : meth.locks = false) (hnm : meth.name = "clear") (hR : R.frames = 3 ∧ R.locals = 75) {K18 : Nat → Int32 → Int32 → Int32 → Hp → Nat → Nat → Prop} {Q : Int32 → Hp → Prop} (hK18 : ∀ (a0 : Nat) (xv1 : Int32) (xv2 : Int32) (xv3 : Int32) (h : Hp) (kc ks : Nat), K18 a0 xv1 xv2 xv3 h kc ks → XW p l e R s m args below meth c (MQ below (va_Qi Q (XPost D A) A) args s KC KS A) D A KC KS 5 h kc ks [(0, .ref a0), (1, .int xv1), (2, .int xv2), (3, .int xv3)] 18 []) : ∀ (n : Nat) (a0 : Nat) (xv1 : Int32) (xv2 : Int32) (xv3 : Int32) (xv4 : Int32) (h : Hp) (kc ks : Nat), m_X12_clear_L55 n E a0 xv1 xv2 xv3 xv4 h kc ks K18 Q → XW p l e R s m args below meth c (MQ below (va_Qi Q (XPost D A) A) args s KC KS A) D A KC KS 5 h kc ks [(0, .ref a0), (1, .int xv1), (2, .int xv2), (3, .int xv3), (4, .int xv4)] 55 [] := by
  intro n
  induction n with
  | zero => intro a0 xv1 xv2 xv3 xv4 h kc ks hm; exact False.elim hm
  | succ n ih =>
    intro a0 xv1 xv2 xv3 xv4 h kc ks hm
    refine xr_iload C dX12_clear_55 4 rfl ?_
    refine xr_bipush (v := 7) C dX12_clear_57 rfl ?_
    refine xr_icmp_ge (tgt := 101) C dX12_clear_59 (by decide) (fun q27 => ?_) (fun q27 => ?_)
    · replace hm := hm.1 q27
      refine xr_aload_n (r := (some a0)) C dX12_clear_101 0 rfl ?_
      refine xr_iload_n C dX12_clear_102 1 rfl ?_
      refine xr_bipush (v := 11) C dX12_clear_103 rfl ?_
      obtain ⟨⟨fs28, e28⟩, hm⟩ := hm
      refine xr_cVv (n := 2) (As := [.int xv1, .int 11]) (st := []) C (c_X12_sign a0 xv1 11 h 0 0 hm) e28 rfl wd_793 wd_795 wd_796 wd_712 wd_794 (by decide +kernel) rfl (by rw [hR.1, hR.2]; decide) (Nat.zero_add _).symm (Nat.zero_add _).symm rfl (Nat.le_of_ble_eq_true rfl) dX12_clear_105 (fun h30 hn => ?_)
      clear hm
      have hm := hn
      clear hn
      refine xr_iload_n C dX12_clear_108 2 rfl ?_
      refine xr_aload_n (r := (some a0)) C dX12_clear_109 0 rfl ?_
      refine xr_bipush (v := 11) C dX12_clear_110 rfl ?_
      refine xr_iconst (v := 1) C dX12_clear_112 rfl ?_
      refine xr_iload_n C dX12_clear_113 1 rfl ?_
      refine xr_iconst (v := 2) C dX12_clear_114 rfl ?_
      refine xr_iconst (v := 0) C dX12_clear_115 rfl ?_
      obtain ⟨⟨fs31, e31⟩, hm⟩ := hm
      refine xr_cVi (n := 5) (As := [.int 11, .int 1, .int xv1, .int 2, .int 0]) (st := [.int xv2]) C (c_X12_send a0 11 1 xv1 2 0 h30 0 0 hm) e31 rfl wd_728 wd_730 wd_731 wd_712 wd_729 (by decide +kernel) rfl (by rw [hR.1, hR.2]; decide) (Nat.zero_add _).symm (Nat.zero_add _).symm rfl (Nat.le_of_ble_eq_true rfl) dX12_clear_116 (fun x32 h33 hn => ?_)
      clear hm
      have hm := hn
      clear hn
      refine xr_if_eq (tgt := 126) C dX12_clear_119 (by decide) (fun q34 => ?_) (fun q34 => ?_)
      · replace hm := hm.1 q34
        refine xr_iconst (v := 0) C dX12_clear_126 rfl ?_
        refine xr_sub [0, 1, 3] rfl ?_
        exact k_X12_clear_L127 C hr hlk hnm hR hK18 a0 xv1 xv3 0 xv2 _ _ _ hm
      · replace hm := hm.2 q34
        refine xr_iconst (v := 1) C dX12_clear_122 rfl ?_
        refine xr_goto (tgt := 127) C dX12_clear_123 (by decide) ?_
        refine xr_sub [0, 1, 3] rfl ?_
        exact k_X12_clear_L127 C hr hlk hnm hR hK18 a0 xv1 xv3 1 xv2 _ _ _ hm
    · replace hm := hm.2 q27
      refine xr_aload_n (r := (some a0)) C dX12_clear_62 0 rfl ?_
      obtain ⟨fs35, r36, e35, f35, hm⟩ := hm
      refine xr_get (ci := 13) C 18 e35 f35 rfl inX12 (by decide) wd_668 dX12_clear_63 ?_
      refine xr_iload C dX12_clear_66 4 rfl ?_
      refine xr_bipush (v := 6) C dX12_clear_68 rfl ?_
      refine xr_icmp_ge (tgt := 80) C dX12_clear_70 (by decide) (fun q37 => ?_) (fun q37 => ?_)
      · replace hm := hm.1 q37
        refine xr_bipush (v := 8) C dX12_clear_80 rfl ?_
        exact k_X12_clear_L82 C hr hlk hnm hR hK18 ih a0 xv1 xv2 xv3 xv4 8 r36 _ _ _ hm
      · replace hm := hm.2 q37
        refine xr_iload C dX12_clear_73 4 rfl ?_
        refine xr_iconst (v := 1) C dX12_clear_75 rfl ?_
        refine xr_iadd C dX12_clear_76 ?_
        refine xr_goto (tgt := 82) C dX12_clear_77 (by decide) ?_
        exact k_X12_clear_L82 C hr hlk hnm hR hK18 ih a0 xv1 xv2 xv3 xv4 (xv4 + 1) r36 _ _ _ hm
set_option maxRecDepth 100000 in
set_option maxHeartbeats 4000000 in
theorem k_X12_clear_L18 {p : Program} {l : Launch} {e : Env} {R : Room} {s : State} {m : MethodId} {args : Array Value} {below : List Frame} {meth : Method} {c : Code} {D : va_G} {E : Ev} {A : Nat → Prop} {KC KS : Nat} (C : XC p R s m args c D E A 5 RX12 cX12_clear KC KS) (hr : meth.sig.returnType = (some .int)) (hlk : meth.locks = false) (hnm : meth.name = "clear") (hR : R.frames = 3 ∧ R.locals = 75) {Q : Int32 → Hp → Prop} : ∀ (n : Nat) (a0 : Nat) (xv1 : Int32) (xv2 : Int32) (xv3 : Int32) (h : Hp) (kc ks : Nat), m_X12_clear_L18 n E a0 xv1 xv2 xv3 h kc ks Q → XW p l e R s m args below meth c (MQ below (va_Qi Q (XPost D A) A) args s KC KS A) D A KC KS 5 h kc ks [(0, .ref a0), (1, .int xv1), (2, .int xv2), (3, .int xv3)] 18 [] := by
  intro n
  induction n with
  | zero => intro a0 xv1 xv2 xv3 h kc ks hm; exact False.elim hm
  | succ n ih =>
    intro a0 xv1 xv2 xv3 h kc ks hm
    refine xr_iload_n C dX12_clear_18 3 rfl ?_
    refine xr_aload_n (r := (some a0)) C dX12_clear_19 0 rfl ?_
    obtain ⟨fs6, x7, e6, f6, hm⟩ := hm
    refine xr_get (ci := 13) C 53 e6 f6 rfl inX12 (by decide) wd_788 dX12_clear_20 ?_
    refine xr_icmp_ge (tgt := 135) C dX12_clear_23 (by decide) (fun q8 => ?_) (fun q8 => ?_)
    · replace hm := hm.1 q8
      refine xr_iload_n C dX12_clear_135 2 rfl ?_
      exact xr_ireturn C hr hlk hm dX12_clear_136
    · replace hm := hm.2 q8
      refine xr_aload_n (r := (some a0)) C dX12_clear_26 0 rfl ?_
      obtain ⟨fs9, r10, e9, f9, hm⟩ := hm
      refine xr_get (ci := 13) C 54 e9 f9 rfl inX12 (by decide) wd_699 dX12_clear_27 ?_
      refine xr_iload_n C dX12_clear_30 3 rfl ?_
      obtain ⟨a12, rfl, hm⟩ := hm
      obtain ⟨N11, f11, x13, e11, b11, v11, hm⟩ := hm
      refine xr_iald C 0 rfl e11 b11 v11 dX12_clear_31 ?_
      refine xr_iload_n C dX12_clear_32 1 rfl ?_
      refine xr_icmp_ne (tgt := 129) C dX12_clear_33 (by decide) (fun q14 => ?_) (fun q14 => ?_)
      · replace hm := hm.2 q14
        exact k_X12_clear_L129 C hr hlk hnm hR ih a0 xv1 xv2 xv3 _ _ _ hm
      · replace hm := hm.1 q14
        refine xr_aload_n (r := (some a0)) C dX12_clear_36 0 rfl ?_
        obtain ⟨fs15, r16, e15, f15, hm⟩ := hm
        refine xr_get (ci := 13) C 55 e15 f15 rfl inX12 (by decide) wd_700 dX12_clear_37 ?_
        refine xr_iload_n C dX12_clear_40 3 rfl ?_
        obtain ⟨a18, rfl, hm⟩ := hm
        obtain ⟨N17, f17, x19, e17, b17, v17, hm⟩ := hm
        refine xr_zald C 2 rfl e17 b17 v17 dX12_clear_41 ?_
        refine xr_if_ne (tgt := 129) C dX12_clear_42 (by decide) (fun q20 => ?_) (fun q20 => ?_)
        · replace hm := hm.2 q20
          exact k_X12_clear_L129 C hr hlk hnm hR ih a0 xv1 xv2 xv3 _ _ _ hm
        · replace hm := hm.1 q20
          refine xr_aload_n (r := (some a0)) C dX12_clear_45 0 rfl ?_
          obtain ⟨fs21, r22, e21, f21, hm⟩ := hm
          refine xr_get (ci := 13) C 55 e21 f21 rfl inX12 (by decide) wd_700 dX12_clear_46 ?_
          refine xr_iload_n C dX12_clear_49 3 rfl ?_
          refine xr_iconst (v := 1) C dX12_clear_50 rfl ?_
          obtain ⟨a24, rfl, hm⟩ := hm
          obtain ⟨N23, f23, e23, b23, h25, v23, hm⟩ := hm
          refine xr_zast C 2 rfl e23 b23 v23 dX12_clear_51 ?_
          refine xr_iconst (v := 0) C dX12_clear_52 rfl ?_
          refine xr_istore (lv' := [(4, .int 0), (0, .ref a0), (1, .int xv1), (2, .int xv2), (3, .int xv3)]) C dX12_clear_53 (by decide) rfl ?_
          obtain ⟨n26, hm⟩ := hm
          refine xr_sub [1, 2, 3, 4, 0] rfl ?_
          exact k_X12_clear_L55 C hr hlk hnm hR ih n26 a0 xv1 xv2 xv3 0 _ _ _ hm
set_option maxRecDepth 100000 in
set_option maxHeartbeats 4000000 in
theorem c_X12_clear {l : Launch} {D : va_G} {E : Ev} (a0 : Nat) (xp1 : Int32) (h : Hp) (kc ks : Nat) {Q : Int32 → Hp → Prop} (hm : m_X12_clear E a0 xp1 h kc ks Q) : XMet l yX12_clear cX12_clear 5 (some .int) 3 75 kc ks D E h [.ref a0, .int xp1] (fun A => va_Qi Q (XPost D A) A) := by
  refine xm_of (lv0 := [(0, .ref a0), (1, .int xp1)]) (by decide) (Nat.le_of_ble_eq_true rfl) rfl RX12 rfl (fun p e s m args below meth c A R hRm C hr hlk hnm => ?_)
  have hR : R.frames = 3 ∧ R.locals = 75 := by rw [hRm]; exact ⟨rfl, rfl⟩
  refine xr_iload_n C dX12_clear_0 1 rfl ?_
  refine xr_if_lt (tgt := 12) C dX12_clear_1 (by decide) (fun q1 => ?_) (fun q1 => ?_)
  · replace hm := hm.1 q1
    refine xr_iconst (v := (-1)) C dX12_clear_12 rfl ?_
    exact xr_ireturn C hr hlk hm dX12_clear_13
  · replace hm := hm.2 q1
    refine xr_iload_n C dX12_clear_4 1 rfl ?_
    refine xr_aload_n (r := (some a0)) C dX12_clear_5 0 rfl ?_
    obtain ⟨fs2, x3, e2, f2, hm⟩ := hm
    refine xr_get (ci := 13) C 36 e2 f2 rfl inX12 (by decide) wd_809 dX12_clear_6 ?_
    refine xr_icmp_lt (tgt := 14) C dX12_clear_9 (by decide) (fun q4 => ?_) (fun q4 => ?_)
    · replace hm := hm.1 q4
      refine xr_iconst (v := 0) C dX12_clear_14 rfl ?_
      refine xr_istore_n (lv' := [(2, .int 0), (0, .ref a0), (1, .int xp1)]) C dX12_clear_15 (by decide) rfl ?_
      refine xr_iconst (v := 0) C dX12_clear_16 rfl ?_
      refine xr_istore_n (lv' := [(3, .int 0), (2, .int 0), (0, .ref a0), (1, .int xp1)]) C dX12_clear_17 (by decide) rfl ?_
      obtain ⟨n5, hm⟩ := hm
      refine xr_sub [2, 3, 1, 0] rfl ?_
      exact k_X12_clear_L18 C hr hlk hnm hR n5 a0 xp1 0 0 _ _ _ hm
    · replace hm := hm.2 q4
      refine xr_iconst (v := (-1)) C dX12_clear_12 rfl ?_
      exact xr_ireturn C hr hlk hm dX12_clear_13
set_option maxRecDepth 100000 in
set_option maxHeartbeats 4000000 in
theorem c_X12_count {l : Launch} {D : va_G} {E : Ev} (a0 : Nat) (xp1 : Int32) (h : Hp) (kc ks : Nat) {Q : Int32 → Hp → Prop} (hm : m_X12_count E a0 xp1 h kc ks Q) : XMet l yX12_count cX12_count 2 (some .int) 0 0 kc ks D E h [.ref a0, .int xp1] (fun A => va_Qi Q (XPost D A) A) := by
  refine xm_of (lv0 := [(0, .ref a0), (1, .int xp1)]) (by decide) (Nat.le_of_ble_eq_true rfl) rfl RX12 rfl (fun p e s m args below meth c A R hRm C hr hlk hnm => ?_)
  have hR : R.frames = 0 ∧ R.locals = 0 := by rw [hRm]; exact ⟨rfl, rfl⟩
  refine xr_iload_n C dX12_count_0 1 rfl ?_
  refine xr_if_ne (tgt := 11) C dX12_count_1 (by decide) (fun q1 => ?_) (fun q1 => ?_)
  · replace hm := hm.2 q1
    refine xr_iload_n C dX12_count_11 1 rfl ?_
    refine xr_iconst (v := 1) C dX12_count_12 rfl ?_
    refine xr_icmp_ne (tgt := 23) C dX12_count_13 (by decide) (fun q2 => ?_) (fun q2 => ?_)
    · replace hm := hm.2 q2
      refine xr_iload_n C dX12_count_23 1 rfl ?_
      refine xr_iconst (v := 2) C dX12_count_24 rfl ?_
      refine xr_icmp_ne (tgt := 35) C dX12_count_25 (by decide) (fun q3 => ?_) (fun q3 => ?_)
      · replace hm := hm.2 q3
        refine xr_iload_n C dX12_count_35 1 rfl ?_
        refine xr_iconst (v := 3) C dX12_count_36 rfl ?_
        refine xr_icmp_ne (tgt := 47) C dX12_count_37 (by decide) (fun q4 => ?_) (fun q4 => ?_)
        · replace hm := hm.2 q4
          refine xr_iload_n C dX12_count_47 1 rfl ?_
          refine xr_iconst (v := 4) C dX12_count_48 rfl ?_
          refine xr_icmp_ne (tgt := 59) C dX12_count_49 (by decide) (fun q5 => ?_) (fun q5 => ?_)
          · replace hm := hm.2 q5
            refine xr_iload_n C dX12_count_59 1 rfl ?_
            refine xr_iconst (v := 5) C dX12_count_60 rfl ?_
            refine xr_icmp_ne (tgt := 71) C dX12_count_61 (by decide) (fun q6 => ?_) (fun q6 => ?_)
            · replace hm := hm.2 q6
              refine xr_iconst (v := (-1)) C dX12_count_71 rfl ?_
              exact xr_ireturn C hr hlk hm dX12_count_72
            · replace hm := hm.1 q6
              refine xr_aload_n (r := (some a0)) C dX12_count_64 0 rfl ?_
              obtain ⟨fs7, x8, e7, f7, hm⟩ := hm
              refine xr_get (ci := 13) C 57 e7 f7 rfl inX12 (by decide) wd_857 dX12_count_65 ?_
              refine xr_goto (tgt := 72) C dX12_count_68 (by decide) ?_
              exact xr_ireturn C hr hlk hm dX12_count_72
          · replace hm := hm.1 q5
            refine xr_aload_n (r := (some a0)) C dX12_count_52 0 rfl ?_
            obtain ⟨fs9, x10, e9, f9, hm⟩ := hm
            refine xr_get (ci := 13) C 0 e9 f9 rfl inX12 (by decide) wd_707 dX12_count_53 ?_
            refine xr_goto (tgt := 72) C dX12_count_56 (by decide) ?_
            exact xr_ireturn C hr hlk hm dX12_count_72
        · replace hm := hm.1 q4
          refine xr_aload_n (r := (some a0)) C dX12_count_40 0 rfl ?_
          obtain ⟨fs11, x12, e11, f11, hm⟩ := hm
          refine xr_get (ci := 13) C 61 e11 f11 rfl inX12 (by decide) wd_810 dX12_count_41 ?_
          refine xr_goto (tgt := 72) C dX12_count_44 (by decide) ?_
          exact xr_ireturn C hr hlk hm dX12_count_72
      · replace hm := hm.1 q3
        refine xr_aload_n (r := (some a0)) C dX12_count_28 0 rfl ?_
        obtain ⟨fs13, x14, e13, f13, hm⟩ := hm
        refine xr_get (ci := 13) C 6 e13 f13 rfl inX12 (by decide) wd_713 dX12_count_29 ?_
        refine xr_goto (tgt := 72) C dX12_count_32 (by decide) ?_
        exact xr_ireturn C hr hlk hm dX12_count_72
    · replace hm := hm.1 q2
      refine xr_aload_n (r := (some a0)) C dX12_count_16 0 rfl ?_
      obtain ⟨fs15, x16, e15, f15, hm⟩ := hm
      refine xr_get (ci := 13) C 36 e15 f15 rfl inX12 (by decide) wd_809 dX12_count_17 ?_
      refine xr_goto (tgt := 72) C dX12_count_20 (by decide) ?_
      exact xr_ireturn C hr hlk hm dX12_count_72
  · replace hm := hm.1 q1
    refine xr_aload_n (r := (some a0)) C dX12_count_4 0 rfl ?_
    obtain ⟨fs17, x18, e17, f17, hm⟩ := hm
    refine xr_get (ci := 13) C 21 e17 f17 rfl inX12 (by decide) wd_779 dX12_count_5 ?_
    refine xr_goto (tgt := 72) C dX12_count_8 (by decide) ?_
    exact xr_ireturn C hr hlk hm dX12_count_72
set_option maxRecDepth 100000 in
set_option maxHeartbeats 4000000 in
theorem k_X12_outcome_L12 {p : Program} {l : Launch} {e : Env} {R : Room} {s : State} {m : MethodId} {args : Array Value} {below : List Frame} {meth : Method} {c : Code} {D : va_G} {E : Ev} {A : Nat → Prop} {KC KS : Nat} (C : XC p R s m args c D E A 2 RX12 cX12_outcome KC KS) (hr : meth.sig.returnType = (some .int)) (hlk : meth.locks = false) (hnm : meth.name = "outcome") (hR : R.frames = 0 ∧ R.locals = 0) {Q : Int32 → Hp → Prop} : ∀  (h : Hp) (kc ks : Nat), m_X12_outcome_L12 E  h kc ks Q → XW p l e R s m args below meth c (MQ below (va_Qi Q (XPost D A) A) args s KC KS A) D A KC KS 2 h kc ks [] 12 [] := by
  intro  h kc ks hm
  refine xr_iconst (v := (-1)) C dX12_outcome_12 rfl ?_
  refine xr_goto (tgt := 22) C dX12_outcome_13 (by decide) ?_
  exact xr_ireturn C hr hlk hm dX12_outcome_22
set_option maxRecDepth 100000 in
set_option maxHeartbeats 4000000 in
theorem c_X12_outcome {l : Launch} {D : va_G} {E : Ev} (a0 : Nat) (xp1 : Int32) (h : Hp) (kc ks : Nat) {Q : Int32 → Hp → Prop} (hm : m_X12_outcome E a0 xp1 h kc ks Q) : XMet l yX12_outcome cX12_outcome 2 (some .int) 0 0 kc ks D E h [.ref a0, .int xp1] (fun A => va_Qi Q (XPost D A) A) := by
  refine xm_of (lv0 := [(0, .ref a0), (1, .int xp1)]) (by decide) (Nat.le_of_ble_eq_true rfl) rfl RX12 rfl (fun p e s m args below meth c A R hRm C hr hlk hnm => ?_)
  have hR : R.frames = 0 ∧ R.locals = 0 := by rw [hRm]; exact ⟨rfl, rfl⟩
  refine xr_iload_n C dX12_outcome_0 1 rfl ?_
  refine xr_if_lt (tgt := 12) C dX12_outcome_1 (by decide) (fun q1 => ?_) (fun q1 => ?_)
  · replace hm := hm.1 q1
    refine xr_sub [] rfl ?_
    exact k_X12_outcome_L12 C hr hlk hnm hR _ _ _ hm
  · replace hm := hm.2 q1
    refine xr_iload_n C dX12_outcome_4 1 rfl ?_
    refine xr_aload_n (r := (some a0)) C dX12_outcome_5 0 rfl ?_
    obtain ⟨fs2, x3, e2, f2, hm⟩ := hm
    refine xr_get (ci := 13) C 36 e2 f2 rfl inX12 (by decide) wd_809 dX12_outcome_6 ?_
    refine xr_icmp_lt (tgt := 16) C dX12_outcome_9 (by decide) (fun q4 => ?_) (fun q4 => ?_)
    · replace hm := hm.1 q4
      refine xr_aload_n (r := (some a0)) C dX12_outcome_16 0 rfl ?_
      obtain ⟨fs5, r6, e5, f5, hm⟩ := hm
      refine xr_get (ci := 13) C 40 e5 f5 rfl inX12 (by decide) wd_687 dX12_outcome_17 ?_
      refine xr_iload_n C dX12_outcome_20 1 rfl ?_
      obtain ⟨a8, rfl, hm⟩ := hm
      obtain ⟨N7, f7, x9, e7, b7, v7, hm⟩ := hm
      refine xr_iald C 0 rfl e7 b7 v7 dX12_outcome_21 ?_
      exact xr_ireturn C hr hlk hm dX12_outcome_22
    · replace hm := hm.2 q4
      refine xr_sub [] rfl ?_
      exact k_X12_outcome_L12 C hr hlk hnm hR _ _ _ hm
set_option maxRecDepth 100000 in
set_option maxHeartbeats 4000000 in
theorem c_X12_told {l : Launch} {D : va_G} {E : Ev} (a0 : Nat) (xp1 : Int32) (xp2 : Int32) (h : Hp) (kc ks : Nat) {Q : Int32 → Hp → Prop} (hm : m_X12_told E a0 xp1 xp2 h kc ks Q) : XMet l yX12_told cX12_told 3 (some .int) 0 0 kc ks D E h [.ref a0, .int xp1, .int xp2] (fun A => va_Qi Q (XPost D A) A) := by
  refine xm_of (lv0 := [(0, .ref a0), (1, .int xp1), (2, .int xp2)]) (by decide) (Nat.le_of_ble_eq_true rfl) rfl RX12 rfl (fun p e s m args below meth c A R hRm C hr hlk hnm => ?_)
  have hR : R.frames = 0 ∧ R.locals = 0 := by rw [hRm]; exact ⟨rfl, rfl⟩
  refine xr_iload_n C dX12_told_0 1 rfl ?_
  refine xr_if_lt (tgt := 12) C dX12_told_1 (by decide) (fun q1 => ?_) (fun q1 => ?_)
  · replace hm := hm.1 q1
    refine xr_iconst (v := (-1)) C dX12_told_12 rfl ?_
    exact xr_ireturn C hr hlk hm dX12_told_13
  · replace hm := hm.2 q1
    refine xr_iload_n C dX12_told_4 1 rfl ?_
    refine xr_aload_n (r := (some a0)) C dX12_told_5 0 rfl ?_
    obtain ⟨fs2, x3, e2, f2, hm⟩ := hm
    refine xr_get (ci := 13) C 21 e2 f2 rfl inX12 (by decide) wd_779 dX12_told_6 ?_
    refine xr_icmp_lt (tgt := 14) C dX12_told_9 (by decide) (fun q4 => ?_) (fun q4 => ?_)
    · replace hm := hm.1 q4
      refine xr_iload_n C dX12_told_14 2 rfl ?_
      refine xr_if_ne (tgt := 27) C dX12_told_15 (by decide) (fun q5 => ?_) (fun q5 => ?_)
      · replace hm := hm.2 q5
        refine xr_iload_n C dX12_told_27 2 rfl ?_
        refine xr_iconst (v := 1) C dX12_told_28 rfl ?_
        refine xr_icmp_ne (tgt := 41) C dX12_told_29 (by decide) (fun q6 => ?_) (fun q6 => ?_)
        · replace hm := hm.2 q6
          refine xr_iload_n C dX12_told_41 2 rfl ?_
          refine xr_iconst (v := 2) C dX12_told_42 rfl ?_
          refine xr_icmp_ne (tgt := 55) C dX12_told_43 (by decide) (fun q7 => ?_) (fun q7 => ?_)
          · replace hm := hm.2 q7
            refine xr_iload_n C dX12_told_55 2 rfl ?_
            refine xr_iconst (v := 3) C dX12_told_56 rfl ?_
            refine xr_icmp_ne (tgt := 69) C dX12_told_57 (by decide) (fun q8 => ?_) (fun q8 => ?_)
            · replace hm := hm.2 q8
              refine xr_iconst (v := (-1)) C dX12_told_69 rfl ?_
              exact xr_ireturn C hr hlk hm dX12_told_70
            · replace hm := hm.1 q8
              refine xr_aload_n (r := (some a0)) C dX12_told_60 0 rfl ?_
              obtain ⟨fs9, r10, e9, f9, hm⟩ := hm
              refine xr_get (ci := 13) C 30 e9 f9 rfl inX12 (by decide) wd_678 dX12_told_61 ?_
              refine xr_iload_n C dX12_told_64 1 rfl ?_
              obtain ⟨a12, rfl, hm⟩ := hm
              obtain ⟨N11, f11, x13, e11, b11, v11, hm⟩ := hm
              refine xr_iald C 0 rfl e11 b11 v11 dX12_told_65 ?_
              refine xr_goto (tgt := 70) C dX12_told_66 (by decide) ?_
              exact xr_ireturn C hr hlk hm dX12_told_70
          · replace hm := hm.1 q7
            refine xr_aload_n (r := (some a0)) C dX12_told_46 0 rfl ?_
            obtain ⟨fs14, r15, e14, f14, hm⟩ := hm
            refine xr_get (ci := 13) C 29 e14 f14 rfl inX12 (by decide) wd_677 dX12_told_47 ?_
            refine xr_iload_n C dX12_told_50 1 rfl ?_
            obtain ⟨a17, rfl, hm⟩ := hm
            obtain ⟨N16, f16, x18, e16, b16, v16, hm⟩ := hm
            refine xr_iald C 0 rfl e16 b16 v16 dX12_told_51 ?_
            refine xr_goto (tgt := 70) C dX12_told_52 (by decide) ?_
            exact xr_ireturn C hr hlk hm dX12_told_70
        · replace hm := hm.1 q6
          refine xr_aload_n (r := (some a0)) C dX12_told_32 0 rfl ?_
          obtain ⟨fs19, r20, e19, f19, hm⟩ := hm
          refine xr_get (ci := 13) C 28 e19 f19 rfl inX12 (by decide) wd_676 dX12_told_33 ?_
          refine xr_iload_n C dX12_told_36 1 rfl ?_
          obtain ⟨a22, rfl, hm⟩ := hm
          obtain ⟨N21, f21, x23, e21, b21, v21, hm⟩ := hm
          refine xr_iald C 0 rfl e21 b21 v21 dX12_told_37 ?_
          refine xr_goto (tgt := 70) C dX12_told_38 (by decide) ?_
          exact xr_ireturn C hr hlk hm dX12_told_70
      · replace hm := hm.1 q5
        refine xr_aload_n (r := (some a0)) C dX12_told_18 0 rfl ?_
        obtain ⟨fs24, r25, e24, f24, hm⟩ := hm
        refine xr_get (ci := 13) C 27 e24 f24 rfl inX12 (by decide) wd_675 dX12_told_19 ?_
        refine xr_iload_n C dX12_told_22 1 rfl ?_
        obtain ⟨a27, rfl, hm⟩ := hm
        obtain ⟨N26, f26, x28, e26, b26, v26, hm⟩ := hm
        refine xr_iald C 0 rfl e26 b26 v26 dX12_told_23 ?_
        refine xr_goto (tgt := 70) C dX12_told_24 (by decide) ?_
        exact xr_ireturn C hr hlk hm dX12_told_70
    · replace hm := hm.2 q4
      refine xr_iconst (v := (-1)) C dX12_told_12 rfl ?_
      exact xr_ireturn C hr hlk hm dX12_told_13
set_option maxRecDepth 100000 in
set_option maxHeartbeats 4000000 in
theorem k_X12_account_L12 {p : Program} {l : Launch} {e : Env} {R : Room} {s : State} {m : MethodId} {args : Array Value} {below : List Frame} {meth : Method} {c : Code} {D : va_G} {E : Ev} {A : Nat → Prop} {KC KS : Nat} (C : XC p R s m args c D E A 2 RX12 cX12_account KC KS) (hr : meth.sig.returnType = (some .long)) (hlk : meth.locks = false) (hnm : meth.name = "account") (hR : R.frames = 0 ∧ R.locals = 0) {Q : Int64 → Hp → Prop} : ∀  (h : Hp) (kc ks : Nat), m_X12_account_L12 E  h kc ks Q → XW p l e R s m args below meth c (MQ below (va_Ql Q (XPost D A) A) args s KC KS A) D A KC KS 2 h kc ks [] 12 [] := by
  intro  h kc ks hm
  refine xr_lconst (v := 0) C dX12_account_12 rfl ?_
  refine xr_goto (tgt := 22) C dX12_account_13 (by decide) ?_
  exact xr_lreturn C hr hlk hm dX12_account_22
set_option maxRecDepth 100000 in
set_option maxHeartbeats 4000000 in
theorem c_X12_account {l : Launch} {D : va_G} {E : Ev} (a0 : Nat) (xp1 : Int32) (h : Hp) (kc ks : Nat) {Q : Int64 → Hp → Prop} (hm : m_X12_account E a0 xp1 h kc ks Q) : XMet l yX12_account cX12_account 2 (some .long) 0 0 kc ks D E h [.ref a0, .int xp1] (fun A => va_Ql Q (XPost D A) A) := by
  refine xm_of (lv0 := [(0, .ref a0), (1, .int xp1)]) (by decide) (Nat.le_of_ble_eq_true rfl) rfl RX12 rfl (fun p e s m args below meth c A R hRm C hr hlk hnm => ?_)
  have hR : R.frames = 0 ∧ R.locals = 0 := by rw [hRm]; exact ⟨rfl, rfl⟩
  refine xr_iload_n C dX12_account_0 1 rfl ?_
  refine xr_if_lt (tgt := 12) C dX12_account_1 (by decide) (fun q1 => ?_) (fun q1 => ?_)
  · replace hm := hm.1 q1
    refine xr_sub [] rfl ?_
    exact k_X12_account_L12 C hr hlk hnm hR _ _ _ hm
  · replace hm := hm.2 q1
    refine xr_iload_n C dX12_account_4 1 rfl ?_
    refine xr_aload_n (r := (some a0)) C dX12_account_5 0 rfl ?_
    obtain ⟨fs2, x3, e2, f2, hm⟩ := hm
    refine xr_get (ci := 13) C 21 e2 f2 rfl inX12 (by decide) wd_779 dX12_account_6 ?_
    refine xr_icmp_lt (tgt := 16) C dX12_account_9 (by decide) (fun q4 => ?_) (fun q4 => ?_)
    · replace hm := hm.1 q4
      refine xr_aload_n (r := (some a0)) C dX12_account_16 0 rfl ?_
      obtain ⟨fs5, r6, e5, f5, hm⟩ := hm
      refine xr_get (ci := 13) C 25 e5 f5 rfl inX12 (by decide) wd_673 dX12_account_17 ?_
      refine xr_iload_n C dX12_account_20 1 rfl ?_
      obtain ⟨a8, rfl, hm⟩ := hm
      obtain ⟨N7, f7, y9, e7, b7, v7, hm⟩ := hm
      refine xr_lald C 1 rfl e7 b7 v7 dX12_account_21 ?_
      exact xr_lreturn C hr hlk hm dX12_account_22
    · replace hm := hm.2 q4
      refine xr_sub [] rfl ?_
      exact k_X12_account_L12 C hr hlk hnm hR _ _ _ hm
set_option maxRecDepth 100000 in
set_option maxHeartbeats 4000000 in
theorem k_X12_debit__L22 {p : Program} {l : Launch} {e : Env} {R : Room} {s : State} {m : MethodId} {args : Array Value} {below : List Frame} {meth : Method} {c : Code} {D : va_G} {E : Ev} {A : Nat → Prop} {KC KS : Nat} (C : XC p R s m args c D E A 3 RX12 cX12_debit_ KC KS) (hr : meth.sig.returnType = (some .long)) (hlk : meth.locks = false) (hnm : meth.name = "debit") (hR : R.frames = 0 ∧ R.locals = 0) {Q : Int64 → Hp → Prop} : ∀  (h : Hp) (kc ks : Nat), m_X12_debit__L22 E  h kc ks Q → XW p l e R s m args below meth c (MQ below (va_Ql Q (XPost D A) A) args s KC KS A) D A KC KS 3 h kc ks [] 22 [] := by
  intro  h kc ks hm
  refine xr_ldc2 (v := (-1)) C dX12_debit__22 wd_866 ?_
  refine xr_goto (tgt := 39) C dX12_debit__25 (by decide) ?_
  exact xr_lreturn C hr hlk hm dX12_debit__39
set_option maxRecDepth 100000 in
set_option maxHeartbeats 4000000 in
theorem c_X12_debit_ {l : Launch} {D : va_G} {E : Ev} (a0 : Nat) (xp1 : Int32) (xp2 : Int32) (h : Hp) (kc ks : Nat) {Q : Int64 → Hp → Prop} (hm : m_X12_debit_ E a0 xp1 xp2 h kc ks Q) : XMet l yX12_debit_ cX12_debit_ 3 (some .long) 0 0 kc ks D E h [.ref a0, .int xp1, .int xp2] (fun A => va_Ql Q (XPost D A) A) := by
  refine xm_of (lv0 := [(0, .ref a0), (1, .int xp1), (2, .int xp2)]) (by decide) (Nat.le_of_ble_eq_true rfl) rfl RX12 rfl (fun p e s m args below meth c A R hRm C hr hlk hnm => ?_)
  have hR : R.frames = 0 ∧ R.locals = 0 := by rw [hRm]; exact ⟨rfl, rfl⟩
  refine xr_iload_n C dX12_debit__0 1 rfl ?_
  refine xr_if_lt (tgt := 22) C dX12_debit__1 (by decide) (fun q1 => ?_) (fun q1 => ?_)
  · replace hm := hm.1 q1
    refine xr_sub [] rfl ?_
    exact k_X12_debit__L22 C hr hlk hnm hR _ _ _ hm
  · replace hm := hm.2 q1
    refine xr_iload_n C dX12_debit__4 1 rfl ?_
    refine xr_aload_n (r := (some a0)) C dX12_debit__5 0 rfl ?_
    obtain ⟨fs2, x3, e2, f2, hm⟩ := hm
    refine xr_get (ci := 13) C 61 e2 f2 rfl inX12 (by decide) wd_810 dX12_debit__6 ?_
    refine xr_icmp_ge (tgt := 22) C dX12_debit__9 (by decide) (fun q4 => ?_) (fun q4 => ?_)
    · replace hm := hm.1 q4
      refine xr_sub [] rfl ?_
      exact k_X12_debit__L22 C hr hlk hnm hR _ _ _ hm
    · replace hm := hm.2 q4
      refine xr_iload_n C dX12_debit__12 2 rfl ?_
      refine xr_if_lt (tgt := 22) C dX12_debit__13 (by decide) (fun q5 => ?_) (fun q5 => ?_)
      · replace hm := hm.1 q5
        refine xr_sub [] rfl ?_
        exact k_X12_debit__L22 C hr hlk hnm hR _ _ _ hm
      · replace hm := hm.2 q5
        refine xr_iload_n C dX12_debit__16 2 rfl ?_
        refine xr_bipush (v := 6) C dX12_debit__17 rfl ?_
        refine xr_icmp_le (tgt := 28) C dX12_debit__19 (by decide) (fun q6 => ?_) (fun q6 => ?_)
        · replace hm := hm.1 q6
          refine xr_aload_n (r := (some a0)) C dX12_debit__28 0 rfl ?_
          obtain ⟨fs7, r8, e7, f7, hm⟩ := hm
          refine xr_get (ci := 13) C 62 e7 f7 rfl inX12 (by decide) wd_704 dX12_debit__29 ?_
          refine xr_bipush (v := 7) C dX12_debit__32 rfl ?_
          refine xr_iload_n C dX12_debit__34 1 rfl ?_
          refine xr_imul C dX12_debit__35 ?_
          refine xr_iload_n C dX12_debit__36 2 rfl ?_
          refine xr_iadd C dX12_debit__37 ?_
          obtain ⟨a10, rfl, hm⟩ := hm
          obtain ⟨N9, f9, y11, e9, b9, v9, hm⟩ := hm
          refine xr_lald C 1 rfl e9 b9 v9 dX12_debit__38 ?_
          exact xr_lreturn C hr hlk hm dX12_debit__39
        · replace hm := hm.2 q6
          refine xr_sub [] rfl ?_
          exact k_X12_debit__L22 C hr hlk hnm hR _ _ _ hm
set_option maxRecDepth 100000 in
set_option maxHeartbeats 4000000 in
theorem c_X12_message {l : Launch} {D : va_G} {E : Ev} (a0 : Nat) (xp1 : Int32) (xp2 : Int32) (h : Hp) (kc ks : Nat) {Q : Int32 → Hp → Prop} (hm : m_X12_message E a0 xp1 xp2 h kc ks Q) : XMet l yX12_message cX12_message 3 (some .int) 1 21 kc ks D E h [.ref a0, .int xp1, .int xp2] (fun A => va_Qi Q (XPost D A) A) := by
  refine xm_of (lv0 := [(0, .ref a0), (1, .int xp1), (2, .int xp2)]) (by decide) (Nat.le_of_ble_eq_true rfl) rfl RX12 rfl (fun p e s m args below meth c A R hRm C hr hlk hnm => ?_)
  have hR : R.frames = 1 ∧ R.locals = 21 := by rw [hRm]; exact ⟨rfl, rfl⟩
  refine xr_aload_n (r := (some a0)) C dX12_message_0 0 rfl ?_
  refine xr_iload_n C dX12_message_1 1 rfl ?_
  obtain ⟨⟨fs1, e1⟩, hm⟩ := hm
  refine xr_cVi (n := 1) (As := [.int xp1]) (st := []) C (c_X12_isMessage a0 xp1 h 0 0 hm) e1 rfl wd_823 wd_825 wd_826 wd_712 wd_824 (by decide +kernel) rfl (by rw [hR.1, hR.2]; decide) (Nat.zero_add _).symm (Nat.zero_add _).symm rfl (Nat.le_of_ble_eq_true rfl) dX12_message_2 (fun x2 h3 hn => ?_)
  clear hm
  have hm := hn
  clear hn
  refine xr_if_ne (tgt := 10) C dX12_message_5 (by decide) (fun q4 => ?_) (fun q4 => ?_)
  · replace hm := hm.2 q4
    refine xr_iload_n C dX12_message_10 2 rfl ?_
    refine xr_if_ne (tgt := 23) C dX12_message_11 (by decide) (fun q5 => ?_) (fun q5 => ?_)
    · replace hm := hm.2 q5
      refine xr_iload_n C dX12_message_23 2 rfl ?_
      refine xr_iconst (v := 1) C dX12_message_24 rfl ?_
      refine xr_icmp_ne (tgt := 37) C dX12_message_25 (by decide) (fun q6 => ?_) (fun q6 => ?_)
      · replace hm := hm.2 q6
        refine xr_iload_n C dX12_message_37 2 rfl ?_
        refine xr_iconst (v := 2) C dX12_message_38 rfl ?_
        refine xr_icmp_ne (tgt := 51) C dX12_message_39 (by decide) (fun q7 => ?_) (fun q7 => ?_)
        · replace hm := hm.2 q7
          refine xr_iload_n C dX12_message_51 2 rfl ?_
          refine xr_iconst (v := 3) C dX12_message_52 rfl ?_
          refine xr_icmp_ne (tgt := 65) C dX12_message_53 (by decide) (fun q8 => ?_) (fun q8 => ?_)
          · replace hm := hm.2 q8
            refine xr_iload_n C dX12_message_65 2 rfl ?_
            refine xr_iconst (v := 4) C dX12_message_66 rfl ?_
            refine xr_icmp_ne (tgt := 79) C dX12_message_67 (by decide) (fun q9 => ?_) (fun q9 => ?_)
            · replace hm := hm.2 q9
              refine xr_iconst (v := (-1)) C dX12_message_79 rfl ?_
              exact xr_ireturn C hr hlk hm dX12_message_80
            · replace hm := hm.1 q9
              refine xr_aload_n (r := (some a0)) C dX12_message_70 0 rfl ?_
              obtain ⟨fs10, r11, e10, f10, hm⟩ := hm
              refine xr_get (ci := 13) C 11 e10 f10 rfl inX12 (by decide) wd_664 dX12_message_71 ?_
              refine xr_iload_n C dX12_message_74 1 rfl ?_
              obtain ⟨a13, rfl, hm⟩ := hm
              obtain ⟨N12, f12, x14, e12, b12, v12, hm⟩ := hm
              refine xr_iald C 0 rfl e12 b12 v12 dX12_message_75 ?_
              refine xr_goto (tgt := 80) C dX12_message_76 (by decide) ?_
              exact xr_ireturn C hr hlk hm dX12_message_80
          · replace hm := hm.1 q8
            refine xr_aload_n (r := (some a0)) C dX12_message_56 0 rfl ?_
            obtain ⟨fs15, r16, e15, f15, hm⟩ := hm
            refine xr_get (ci := 13) C 10 e15 f15 rfl inX12 (by decide) wd_663 dX12_message_57 ?_
            refine xr_iload_n C dX12_message_60 1 rfl ?_
            obtain ⟨a18, rfl, hm⟩ := hm
            obtain ⟨N17, f17, x19, e17, b17, v17, hm⟩ := hm
            refine xr_iald C 0 rfl e17 b17 v17 dX12_message_61 ?_
            refine xr_goto (tgt := 80) C dX12_message_62 (by decide) ?_
            exact xr_ireturn C hr hlk hm dX12_message_80
        · replace hm := hm.1 q7
          refine xr_aload_n (r := (some a0)) C dX12_message_42 0 rfl ?_
          obtain ⟨fs20, r21, e20, f20, hm⟩ := hm
          refine xr_get (ci := 13) C 9 e20 f20 rfl inX12 (by decide) wd_662 dX12_message_43 ?_
          refine xr_iload_n C dX12_message_46 1 rfl ?_
          obtain ⟨a23, rfl, hm⟩ := hm
          obtain ⟨N22, f22, x24, e22, b22, v22, hm⟩ := hm
          refine xr_iald C 0 rfl e22 b22 v22 dX12_message_47 ?_
          refine xr_goto (tgt := 80) C dX12_message_48 (by decide) ?_
          exact xr_ireturn C hr hlk hm dX12_message_80
      · replace hm := hm.1 q6
        refine xr_aload_n (r := (some a0)) C dX12_message_28 0 rfl ?_
        obtain ⟨fs25, r26, e25, f25, hm⟩ := hm
        refine xr_get (ci := 13) C 8 e25 f25 rfl inX12 (by decide) wd_661 dX12_message_29 ?_
        refine xr_iload_n C dX12_message_32 1 rfl ?_
        obtain ⟨a28, rfl, hm⟩ := hm
        obtain ⟨N27, f27, x29, e27, b27, v27, hm⟩ := hm
        refine xr_iald C 0 rfl e27 b27 v27 dX12_message_33 ?_
        refine xr_goto (tgt := 80) C dX12_message_34 (by decide) ?_
        exact xr_ireturn C hr hlk hm dX12_message_80
    · replace hm := hm.1 q5
      refine xr_aload_n (r := (some a0)) C dX12_message_14 0 rfl ?_
      obtain ⟨fs30, r31, e30, f30, hm⟩ := hm
      refine xr_get (ci := 13) C 7 e30 f30 rfl inX12 (by decide) wd_660 dX12_message_15 ?_
      refine xr_iload_n C dX12_message_18 1 rfl ?_
      obtain ⟨a33, rfl, hm⟩ := hm
      obtain ⟨N32, f32, x34, e32, b32, v32, hm⟩ := hm
      refine xr_iald C 0 rfl e32 b32 v32 dX12_message_19 ?_
      refine xr_goto (tgt := 80) C dX12_message_20 (by decide) ?_
      exact xr_ireturn C hr hlk hm dX12_message_80
  · replace hm := hm.1 q4
    refine xr_iconst (v := (-1)) C dX12_message_8 rfl ?_
    exact xr_ireturn C hr hlk hm dX12_message_9
set_option maxRecDepth 100000 in
set_option maxHeartbeats 4000000 in
theorem k_X12_at_L22 {p : Program} {l : Launch} {e : Env} {R : Room} {s : State} {m : MethodId} {args : Array Value} {below : List Frame} {meth : Method} {c : Code} {D : va_G} {E : Ev} {A : Nat → Prop} {KC KS : Nat} (C : XC p R s m args c D E A 3 RX12 cX12_at KC KS) (hr : meth.sig.returnType = (some .int)) (hlk : meth.locks = false) (hnm : meth.name = "at") (hR : R.frames = 1 ∧ R.locals = 21) {Q : Int32 → Hp → Prop} : ∀  (h : Hp) (kc ks : Nat), m_X12_at_L22 E  h kc ks Q → XW p l e R s m args below meth c (MQ below (va_Qi Q (XPost D A) A) args s KC KS A) D A KC KS 3 h kc ks [] 22 [] := by
  intro  h kc ks hm
  refine xr_iconst (v := (-1)) C dX12_at_22 rfl ?_
  refine xr_goto (tgt := 37) C dX12_at_23 (by decide) ?_
  exact xr_ireturn C hr hlk hm dX12_at_37
set_option maxRecDepth 100000 in
set_option maxHeartbeats 4000000 in
theorem c_X12_at {l : Launch} {D : va_G} {E : Ev} (a0 : Nat) (xp1 : Int32) (xp2 : Int32) (h : Hp) (kc ks : Nat) {Q : Int32 → Hp → Prop} (hm : m_X12_at E a0 xp1 xp2 h kc ks Q) : XMet l yX12_at cX12_at 3 (some .int) 1 21 kc ks D E h [.ref a0, .int xp1, .int xp2] (fun A => va_Qi Q (XPost D A) A) := by
  refine xm_of (lv0 := [(0, .ref a0), (1, .int xp1), (2, .int xp2)]) (by decide) (Nat.le_of_ble_eq_true rfl) rfl RX12 rfl (fun p e s m args below meth c A R hRm C hr hlk hnm => ?_)
  have hR : R.frames = 1 ∧ R.locals = 21 := by rw [hRm]; exact ⟨rfl, rfl⟩
  refine xr_aload_n (r := (some a0)) C dX12_at_0 0 rfl ?_
  refine xr_iload_n C dX12_at_1 1 rfl ?_
  obtain ⟨⟨fs1, e1⟩, hm⟩ := hm
  refine xr_cVi (n := 1) (As := [.int xp1]) (st := []) C (c_X12_isMessage a0 xp1 h 0 0 hm) e1 rfl wd_823 wd_825 wd_826 wd_712 wd_824 (by decide +kernel) rfl (by rw [hR.1, hR.2]; decide) (Nat.zero_add _).symm (Nat.zero_add _).symm rfl (Nat.le_of_ble_eq_true rfl) dX12_at_2 (fun x2 h3 hn => ?_)
  clear hm
  have hm := hn
  clear hn
  refine xr_if_eq (tgt := 22) C dX12_at_5 (by decide) (fun q4 => ?_) (fun q4 => ?_)
  · replace hm := hm.1 q4
    refine xr_sub [] rfl ?_
    exact k_X12_at_L22 C hr hlk hnm hR _ _ _ hm
  · replace hm := hm.2 q4
    refine xr_iload_n C dX12_at_8 2 rfl ?_
    refine xr_if_lt (tgt := 22) C dX12_at_9 (by decide) (fun q5 => ?_) (fun q5 => ?_)
    · replace hm := hm.1 q5
      refine xr_sub [] rfl ?_
      exact k_X12_at_L22 C hr hlk hnm hR _ _ _ hm
    · replace hm := hm.2 q5
      refine xr_iload_n C dX12_at_12 2 rfl ?_
      refine xr_aload_n (r := (some a0)) C dX12_at_13 0 rfl ?_
      obtain ⟨fs6, r7, e6, f6, hm⟩ := hm
      refine xr_get (ci := 13) C 11 e6 f6 rfl inX12 (by decide) wd_664 dX12_at_14 ?_
      refine xr_iload_n C dX12_at_17 1 rfl ?_
      obtain ⟨a9, rfl, hm⟩ := hm
      obtain ⟨N8, f8, x10, e8, b8, v8, hm⟩ := hm
      refine xr_iald C 0 rfl e8 b8 v8 dX12_at_18 ?_
      refine xr_icmp_lt (tgt := 26) C dX12_at_19 (by decide) (fun q11 => ?_) (fun q11 => ?_)
      · replace hm := hm.1 q11
        refine xr_aload_n (r := (some a0)) C dX12_at_26 0 rfl ?_
        obtain ⟨fs12, r13, e12, f12, hm⟩ := hm
        refine xr_get (ci := 13) C 12 e12 f12 rfl inX12 (by decide) wd_665 dX12_at_27 ?_
        refine xr_bipush (v := 64) C dX12_at_30 rfl ?_
        refine xr_iload_n C dX12_at_32 1 rfl ?_
        refine xr_imul C dX12_at_33 ?_
        refine xr_iload_n C dX12_at_34 2 rfl ?_
        refine xr_iadd C dX12_at_35 ?_
        obtain ⟨a15, rfl, hm⟩ := hm
        obtain ⟨N14, f14, x16, e14, b14, v14, hm⟩ := hm
        refine xr_iald C 0 rfl e14 b14 v14 dX12_at_36 ?_
        exact xr_ireturn C hr hlk hm dX12_at_37
      · replace hm := hm.2 q11
        refine xr_sub [] rfl ?_
        exact k_X12_at_L22 C hr hlk hnm hR _ _ _ hm
set_option maxRecDepth 100000 in
set_option maxHeartbeats 4000000 in
theorem k_X12_matched_L110 {p : Program} {l : Launch} {e : Env} {R : Room} {s : State} {m : MethodId} {args : Array Value} {below : List Frame} {meth : Method} {c : Code} {D : va_G} {E : Ev} {A : Nat → Prop} {KC KS : Nat} (C : XC p R s m args c D E A 9 RX12 cX12_matched KC KS) (hr : meth.sig.returnType = (some .boolean)) (hlk : meth.locks = false) (hnm : meth.name = "matched") (hR : R.frames = 0 ∧ R.locals = 0) {K4 : Nat → Int32 → Int32 → Hp → Nat → Nat → Prop} {K27 : Nat → Int32 → Int32 → Int32 → Int32 → Hp → Nat → Nat → Prop} {Q : Int32 → Hp → Prop} (hK4 : ∀ (a0 : Nat) (xv1 : Int32) (xv2 : Int32) (h : Hp) (kc ks : Nat), K4 a0 xv1 xv2 h kc ks → XW p l e R s m args below meth c (MQ below (va_Qi Q (XPost D A) A) args s KC KS A) D A KC KS 9 h kc ks [(0, .ref a0), (1, .int xv1), (2, .int xv2)] 4 []) (hK27 : ∀ (a0 : Nat) (xv2 : Int32) (xv3 : Int32) (xv4 : Int32) (xv5 : Int32) (h : Hp) (kc ks : Nat), K27 a0 xv2 xv3 xv4 xv5 h kc ks → XW p l e R s m args below meth c (MQ below (va_Qi Q (XPost D A) A) args s KC KS A) D A KC KS 9 h kc ks [(0, .ref a0), (2, .int xv2), (3, .int xv3), (4, .int xv4), (5, .int xv5)] 27 []) : ∀ (a0 : Nat) (xv2 : Int32) (xv3 : Int32) (xv5 : Int32) (s0 : Int32) (s1 : Int32) (h : Hp) (kc ks : Nat), m_X12_matched_L110 E a0 xv2 xv3 xv5 s0 s1 h kc ks K4 K27 Q → XW p l e R s m args below meth c (MQ below (va_Qi Q (XPost D A) A) args s KC KS A) D A KC KS 9 h kc ks [(0, .ref a0), (2, .int xv2), (3, .int xv3), (5, .int xv5)] 110 [.int s0, .int s1] := by
  intro a0 xv2 xv3 xv5 s0 s1 h kc ks hm
  refine xr_iadd C dX12_matched_110 ?_
  refine xr_istore (lv' := [(4, .int (s1 + s0)), (0, .ref a0), (2, .int xv2), (3, .int xv3), (5, .int xv5)]) C dX12_matched_111 (by decide) rfl ?_
  refine xr_iinc (j := 4) (v := xv5 + 1) (lv' := [(5, .int (xv5 + 1)), (4, .int (s1 + s0)), (0, .ref a0), (2, .int xv2), (3, .int xv3)]) C dX12_matched_113 rfl rfl (by decide) rfl ?_
  refine xr_goto (tgt := 27) C dX12_matched_116 (by decide) ?_
  refine xr_sub [2, 3, 4, 1, 0] rfl ?_
  exact hK27 a0 xv2 xv3 (s1 + s0) (xv5 + 1) _ _ _ hm
set_option maxRecDepth 100000 in
set_option maxHeartbeats 4000000 in
theorem k_X12_matched_L109 {p : Program} {l : Launch} {e : Env} {R : Room} {s : State} {m : MethodId} {args : Array Value} {below : List Frame} {meth : Method} {c : Code} {D : va_G} {E : Ev} {A : Nat → Prop} {KC KS : Nat} (C : XC p R s m args c D E A 9 RX12 cX12_matched KC KS) (hr : meth.sig.returnType = (some .boolean)) (hlk : meth.locks = false) (hnm : meth.name = "matched") (hR : R.frames = 0 ∧ R.locals = 0) {K4 : Nat → Int32 → Int32 → Hp → Nat → Nat → Prop} {K27 : Nat → Int32 → Int32 → Int32 → Int32 → Hp → Nat → Nat → Prop} {Q : Int32 → Hp → Prop} (hK4 : ∀ (a0 : Nat) (xv1 : Int32) (xv2 : Int32) (h : Hp) (kc ks : Nat), K4 a0 xv1 xv2 h kc ks → XW p l e R s m args below meth c (MQ below (va_Qi Q (XPost D A) A) args s KC KS A) D A KC KS 9 h kc ks [(0, .ref a0), (1, .int xv1), (2, .int xv2)] 4 []) (hK27 : ∀ (a0 : Nat) (xv2 : Int32) (xv3 : Int32) (xv4 : Int32) (xv5 : Int32) (h : Hp) (kc ks : Nat), K27 a0 xv2 xv3 xv4 xv5 h kc ks → XW p l e R s m args below meth c (MQ below (va_Qi Q (XPost D A) A) args s KC KS A) D A KC KS 9 h kc ks [(0, .ref a0), (2, .int xv2), (3, .int xv3), (4, .int xv4), (5, .int xv5)] 27 []) : ∀ (a0 : Nat) (xv2 : Int32) (xv3 : Int32) (xv5 : Int32) (s0 : Int32) (h : Hp) (kc ks : Nat), m_X12_matched_L109 E a0 xv2 xv3 xv5 s0 h kc ks K4 K27 Q → XW p l e R s m args below meth c (MQ below (va_Qi Q (XPost D A) A) args s KC KS A) D A KC KS 9 h kc ks [(0, .ref a0), (2, .int xv2), (3, .int xv3), (5, .int xv5)] 109 [.int s0] := by
  intro a0 xv2 xv3 xv5 s0 h kc ks hm
  refine xr_iconst (v := 0) C dX12_matched_109 rfl ?_
  exact k_X12_matched_L110 C hr hlk hnm hR hK4 hK27 a0 xv2 xv3 xv5 0 s0 _ _ _ hm
set_option maxRecDepth 100000 in
set_option maxHeartbeats 4000000 in
theorem k_X12_matched_L183 {p : Program} {l : Launch} {e : Env} {R : Room} {s : State} {m : MethodId} {args : Array Value} {below : List Frame} {meth : Method} {c : Code} {D : va_G} {E : Ev} {A : Nat → Prop} {KC KS : Nat} (C : XC p R s m args c D E A 9 RX12 cX12_matched KC KS) (hr : meth.sig.returnType = (some .boolean)) (hlk : meth.locks = false) (hnm : meth.name = "matched") (hR : R.frames = 0 ∧ R.locals = 0) {K4 : Nat → Int32 → Int32 → Hp → Nat → Nat → Prop} {K125 : Nat → Int32 → Int32 → Int32 → Int32 → Int32 → Hp → Nat → Nat → Prop} {K140 : Nat → Int32 → Int32 → Int32 → Int32 → Int32 → Int32 → Int32 → Hp → Nat → Nat → Prop} {Q : Int32 → Hp → Prop} (hK4 : ∀ (a0 : Nat) (xv1 : Int32) (xv2 : Int32) (h : Hp) (kc ks : Nat), K4 a0 xv1 xv2 h kc ks → XW p l e R s m args below meth c (MQ below (va_Qi Q (XPost D A) A) args s KC KS A) D A KC KS 9 h kc ks [(0, .ref a0), (1, .int xv1), (2, .int xv2)] 4 []) (hK125 : ∀ (a0 : Nat) (xv2 : Int32) (xv3 : Int32) (xv4 : Int32) (xv5 : Int32) (xv6 : Int32) (h : Hp) (kc ks : Nat), K125 a0 xv2 xv3 xv4 xv5 xv6 h kc ks → XW p l e R s m args below meth c (MQ below (va_Qi Q (XPost D A) A) args s KC KS A) D A KC KS 9 h kc ks [(0, .ref a0), (2, .int xv2), (3, .int xv3), (4, .int xv4), (5, .int xv5), (6, .int xv6)] 125 []) (hK140 : ∀ (a0 : Nat) (xv2 : Int32) (xv3 : Int32) (xv4 : Int32) (xv5 : Int32) (xv6 : Int32) (xv7 : Int32) (xv8 : Int32) (h : Hp) (kc ks : Nat), K140 a0 xv2 xv3 xv4 xv5 xv6 xv7 xv8 h kc ks → XW p l e R s m args below meth c (MQ below (va_Qi Q (XPost D A) A) args s KC KS A) D A KC KS 9 h kc ks [(0, .ref a0), (2, .int xv2), (3, .int xv3), (4, .int xv4), (5, .int xv5), (6, .int xv6), (7, .int xv7), (8, .int xv8)] 140 []) : ∀ (a0 : Nat) (xv2 : Int32) (xv3 : Int32) (xv4 : Int32) (xv5 : Int32) (xv6 : Int32) (xv8 : Int32) (s0 : Int32) (h : Hp) (kc ks : Nat), m_X12_matched_L183 E a0 xv2 xv3 xv4 xv5 xv6 xv8 s0 h kc ks K4 K125 K140 Q → XW p l e R s m args below meth c (MQ below (va_Qi Q (XPost D A) A) args s KC KS A) D A KC KS 9 h kc ks [(0, .ref a0), (2, .int xv2), (3, .int xv3), (4, .int xv4), (5, .int xv5), (6, .int xv6), (8, .int xv8)] 183 [.int s0] := by
  intro a0 xv2 xv3 xv4 xv5 xv6 xv8 s0 h kc ks hm
  refine xr_istore (lv' := [(7, .int s0), (0, .ref a0), (2, .int xv2), (3, .int xv3), (4, .int xv4), (5, .int xv5), (6, .int xv6), (8, .int xv8)]) C dX12_matched_183 (by decide) rfl ?_
  refine xr_iinc (j := 7) (v := xv8 + 1) (lv' := [(8, .int (xv8 + 1)), (7, .int s0), (0, .ref a0), (2, .int xv2), (3, .int xv3), (4, .int xv4), (5, .int xv5), (6, .int xv6)]) C dX12_matched_185 rfl rfl (by decide) rfl ?_
  refine xr_goto (tgt := 140) C dX12_matched_188 (by decide) ?_
  refine xr_sub [2, 3, 4, 5, 6, 7, 1, 0] rfl ?_
  exact hK140 a0 xv2 xv3 xv4 xv5 xv6 s0 (xv8 + 1) _ _ _ hm
set_option maxRecDepth 100000 in
set_option maxHeartbeats 4000000 in
theorem k_X12_matched_L182 {p : Program} {l : Launch} {e : Env} {R : Room} {s : State} {m : MethodId} {args : Array Value} {below : List Frame} {meth : Method} {c : Code} {D : va_G} {E : Ev} {A : Nat → Prop} {KC KS : Nat} (C : XC p R s m args c D E A 9 RX12 cX12_matched KC KS) (hr : meth.sig.returnType = (some .boolean)) (hlk : meth.locks = false) (hnm : meth.name = "matched") (hR : R.frames = 0 ∧ R.locals = 0) {K4 : Nat → Int32 → Int32 → Hp → Nat → Nat → Prop} {K125 : Nat → Int32 → Int32 → Int32 → Int32 → Int32 → Hp → Nat → Nat → Prop} {K140 : Nat → Int32 → Int32 → Int32 → Int32 → Int32 → Int32 → Int32 → Hp → Nat → Nat → Prop} {Q : Int32 → Hp → Prop} (hK4 : ∀ (a0 : Nat) (xv1 : Int32) (xv2 : Int32) (h : Hp) (kc ks : Nat), K4 a0 xv1 xv2 h kc ks → XW p l e R s m args below meth c (MQ below (va_Qi Q (XPost D A) A) args s KC KS A) D A KC KS 9 h kc ks [(0, .ref a0), (1, .int xv1), (2, .int xv2)] 4 []) (hK125 : ∀ (a0 : Nat) (xv2 : Int32) (xv3 : Int32) (xv4 : Int32) (xv5 : Int32) (xv6 : Int32) (h : Hp) (kc ks : Nat), K125 a0 xv2 xv3 xv4 xv5 xv6 h kc ks → XW p l e R s m args below meth c (MQ below (va_Qi Q (XPost D A) A) args s KC KS A) D A KC KS 9 h kc ks [(0, .ref a0), (2, .int xv2), (3, .int xv3), (4, .int xv4), (5, .int xv5), (6, .int xv6)] 125 []) (hK140 : ∀ (a0 : Nat) (xv2 : Int32) (xv3 : Int32) (xv4 : Int32) (xv5 : Int32) (xv6 : Int32) (xv7 : Int32) (xv8 : Int32) (h : Hp) (kc ks : Nat), K140 a0 xv2 xv3 xv4 xv5 xv6 xv7 xv8 h kc ks → XW p l e R s m args below meth c (MQ below (va_Qi Q (XPost D A) A) args s KC KS A) D A KC KS 9 h kc ks [(0, .ref a0), (2, .int xv2), (3, .int xv3), (4, .int xv4), (5, .int xv5), (6, .int xv6), (7, .int xv7), (8, .int xv8)] 140 []) : ∀ (a0 : Nat) (xv2 : Int32) (xv3 : Int32) (xv4 : Int32) (xv5 : Int32) (xv6 : Int32) (xv8 : Int32) (h : Hp) (kc ks : Nat), m_X12_matched_L182 E a0 xv2 xv3 xv4 xv5 xv6 xv8 h kc ks K4 K125 K140 Q → XW p l e R s m args below meth c (MQ below (va_Qi Q (XPost D A) A) args s KC KS A) D A KC KS 9 h kc ks [(0, .ref a0), (2, .int xv2), (3, .int xv3), (4, .int xv4), (5, .int xv5), (6, .int xv6), (8, .int xv8)] 182 [] := by
  intro a0 xv2 xv3 xv4 xv5 xv6 xv8 h kc ks hm
  refine xr_iconst (v := 0) C dX12_matched_182 rfl ?_
  exact k_X12_matched_L183 C hr hlk hnm hR hK4 hK125 hK140 a0 xv2 xv3 xv4 xv5 xv6 xv8 0 _ _ _ hm
set_option maxRecDepth 100000 in
set_option maxHeartbeats 4000000 in
theorem k_X12_matched_L206 {p : Program} {l : Launch} {e : Env} {R : Room} {s : State} {m : MethodId} {args : Array Value} {below : List Frame} {meth : Method} {c : Code} {D : va_G} {E : Ev} {A : Nat → Prop} {KC KS : Nat} (C : XC p R s m args c D E A 9 RX12 cX12_matched KC KS) (hr : meth.sig.returnType = (some .boolean)) (hlk : meth.locks = false) (hnm : meth.name = "matched") (hR : R.frames = 0 ∧ R.locals = 0) {K4 : Nat → Int32 → Int32 → Hp → Nat → Nat → Prop} {K125 : Nat → Int32 → Int32 → Int32 → Int32 → Int32 → Hp → Nat → Nat → Prop} {Q : Int32 → Hp → Prop} (hK4 : ∀ (a0 : Nat) (xv1 : Int32) (xv2 : Int32) (h : Hp) (kc ks : Nat), K4 a0 xv1 xv2 h kc ks → XW p l e R s m args below meth c (MQ below (va_Qi Q (XPost D A) A) args s KC KS A) D A KC KS 9 h kc ks [(0, .ref a0), (1, .int xv1), (2, .int xv2)] 4 []) (hK125 : ∀ (a0 : Nat) (xv2 : Int32) (xv3 : Int32) (xv4 : Int32) (xv5 : Int32) (xv6 : Int32) (h : Hp) (kc ks : Nat), K125 a0 xv2 xv3 xv4 xv5 xv6 h kc ks → XW p l e R s m args below meth c (MQ below (va_Qi Q (XPost D A) A) args s KC KS A) D A KC KS 9 h kc ks [(0, .ref a0), (2, .int xv2), (3, .int xv3), (4, .int xv4), (5, .int xv5), (6, .int xv6)] 125 []) : ∀ (a0 : Nat) (xv2 : Int32) (xv3 : Int32) (xv4 : Int32) (xv6 : Int32) (s0 : Int32) (h : Hp) (kc ks : Nat), m_X12_matched_L206 E a0 xv2 xv3 xv4 xv6 s0 h kc ks K4 K125 Q → XW p l e R s m args below meth c (MQ below (va_Qi Q (XPost D A) A) args s KC KS A) D A KC KS 9 h kc ks [(0, .ref a0), (2, .int xv2), (3, .int xv3), (4, .int xv4), (6, .int xv6)] 206 [.int s0] := by
  intro a0 xv2 xv3 xv4 xv6 s0 h kc ks hm
  refine xr_istore (lv' := [(5, .int s0), (0, .ref a0), (2, .int xv2), (3, .int xv3), (4, .int xv4), (6, .int xv6)]) C dX12_matched_206 (by decide) rfl ?_
  refine xr_iinc (j := 5) (v := xv6 + 1) (lv' := [(6, .int (xv6 + 1)), (5, .int s0), (0, .ref a0), (2, .int xv2), (3, .int xv3), (4, .int xv4)]) C dX12_matched_208 rfl rfl (by decide) rfl ?_
  refine xr_goto (tgt := 125) C dX12_matched_211 (by decide) ?_
  refine xr_sub [2, 3, 4, 5, 1, 0] rfl ?_
  exact hK125 a0 xv2 xv3 xv4 s0 (xv6 + 1) _ _ _ hm
set_option maxRecDepth 100000 in
set_option maxHeartbeats 4000000 in
theorem k_X12_matched_L201 {p : Program} {l : Launch} {e : Env} {R : Room} {s : State} {m : MethodId} {args : Array Value} {below : List Frame} {meth : Method} {c : Code} {D : va_G} {E : Ev} {A : Nat → Prop} {KC KS : Nat} (C : XC p R s m args c D E A 9 RX12 cX12_matched KC KS) (hr : meth.sig.returnType = (some .boolean)) (hlk : meth.locks = false) (hnm : meth.name = "matched") (hR : R.frames = 0 ∧ R.locals = 0) {K4 : Nat → Int32 → Int32 → Hp → Nat → Nat → Prop} {K125 : Nat → Int32 → Int32 → Int32 → Int32 → Int32 → Hp → Nat → Nat → Prop} {Q : Int32 → Hp → Prop} (hK4 : ∀ (a0 : Nat) (xv1 : Int32) (xv2 : Int32) (h : Hp) (kc ks : Nat), K4 a0 xv1 xv2 h kc ks → XW p l e R s m args below meth c (MQ below (va_Qi Q (XPost D A) A) args s KC KS A) D A KC KS 9 h kc ks [(0, .ref a0), (1, .int xv1), (2, .int xv2)] 4 []) (hK125 : ∀ (a0 : Nat) (xv2 : Int32) (xv3 : Int32) (xv4 : Int32) (xv5 : Int32) (xv6 : Int32) (h : Hp) (kc ks : Nat), K125 a0 xv2 xv3 xv4 xv5 xv6 h kc ks → XW p l e R s m args below meth c (MQ below (va_Qi Q (XPost D A) A) args s KC KS A) D A KC KS 9 h kc ks [(0, .ref a0), (2, .int xv2), (3, .int xv3), (4, .int xv4), (5, .int xv5), (6, .int xv6)] 125 []) : ∀ (a0 : Nat) (xv2 : Int32) (xv3 : Int32) (xv4 : Int32) (xv6 : Int32) (h : Hp) (kc ks : Nat), m_X12_matched_L201 E a0 xv2 xv3 xv4 xv6 h kc ks K4 K125 Q → XW p l e R s m args below meth c (MQ below (va_Qi Q (XPost D A) A) args s KC KS A) D A KC KS 9 h kc ks [(0, .ref a0), (2, .int xv2), (3, .int xv3), (4, .int xv4), (6, .int xv6)] 201 [] := by
  intro a0 xv2 xv3 xv4 xv6 h kc ks hm
  refine xr_iconst (v := 1) C dX12_matched_201 rfl ?_
  refine xr_goto (tgt := 206) C dX12_matched_202 (by decide) ?_
  exact k_X12_matched_L206 C hr hlk hnm hR hK4 hK125 a0 xv2 xv3 xv4 xv6 1 _ _ _ hm
set_option maxRecDepth 100000 in
set_option maxHeartbeats 4000000 in
theorem k_X12_matched_L140 {p : Program} {l : Launch} {e : Env} {R : Room} {s : State} {m : MethodId} {args : Array Value} {below : List Frame} {meth : Method} {c : Code} {D : va_G} {E : Ev} {A : Nat → Prop} {KC KS : Nat} (C : XC p R s m args c D E A 9 RX12 cX12_matched KC KS) (hr : meth.sig.returnType = (some .boolean)) (hlk : meth.locks = false) (hnm : meth.name = "matched") (hR : R.frames = 0 ∧ R.locals = 0) {K4 : Nat → Int32 → Int32 → Hp → Nat → Nat → Prop} {K125 : Nat → Int32 → Int32 → Int32 → Int32 → Int32 → Hp → Nat → Nat → Prop} {Q : Int32 → Hp → Prop} (hK4 : ∀ (a0 : Nat) (xv1 : Int32) (xv2 : Int32) (h : Hp) (kc ks : Nat), K4 a0 xv1 xv2 h kc ks → XW p l e R s m args below meth c (MQ below (va_Qi Q (XPost D A) A) args s KC KS A) D A KC KS 9 h kc ks [(0, .ref a0), (1, .int xv1), (2, .int xv2)] 4 []) (hK125 : ∀ (a0 : Nat) (xv2 : Int32) (xv3 : Int32) (xv4 : Int32) (xv5 : Int32) (xv6 : Int32) (h : Hp) (kc ks : Nat), K125 a0 xv2 xv3 xv4 xv5 xv6 h kc ks → XW p l e R s m args below meth c (MQ below (va_Qi Q (XPost D A) A) args s KC KS A) D A KC KS 9 h kc ks [(0, .ref a0), (2, .int xv2), (3, .int xv3), (4, .int xv4), (5, .int xv5), (6, .int xv6)] 125 []) : ∀ (n : Nat) (a0 : Nat) (xv2 : Int32) (xv3 : Int32) (xv4 : Int32) (xv5 : Int32) (xv6 : Int32) (xv7 : Int32) (xv8 : Int32) (h : Hp) (kc ks : Nat), m_X12_matched_L140 n E a0 xv2 xv3 xv4 xv5 xv6 xv7 xv8 h kc ks K4 K125 Q → XW p l e R s m args below meth c (MQ below (va_Qi Q (XPost D A) A) args s KC KS A) D A KC KS 9 h kc ks [(0, .ref a0), (2, .int xv2), (3, .int xv3), (4, .int xv4), (5, .int xv5), (6, .int xv6), (7, .int xv7), (8, .int xv8)] 140 [] := by
  intro n
  induction n with
  | zero => intro a0 xv2 xv3 xv4 xv5 xv6 xv7 xv8 h kc ks hm; exact False.elim hm
  | succ n ih =>
    intro a0 xv2 xv3 xv4 xv5 xv6 xv7 xv8 h kc ks hm
    refine xr_iload C dX12_matched_140 7 rfl ?_
    refine xr_bipush (v := 7) C dX12_matched_142 rfl ?_
    refine xr_icmp_ge (tgt := 191) C dX12_matched_144 (by decide) (fun q51 => ?_) (fun q51 => ?_)
    · replace hm := hm.1 q51
      refine xr_iload C dX12_matched_191 4 rfl ?_
      refine xr_if_ne (tgt := 201) C dX12_matched_193 (by decide) (fun q52 => ?_) (fun q52 => ?_)
      · replace hm := hm.2 q52
        refine xr_sub [0, 1, 2, 3, 5] rfl ?_
        exact k_X12_matched_L201 C hr hlk hnm hR hK4 hK125 a0 xv2 xv3 xv4 xv6 _ _ _ hm
      · replace hm := hm.1 q52
        refine xr_iload C dX12_matched_196 6 rfl ?_
        refine xr_if_eq (tgt := 205) C dX12_matched_198 (by decide) (fun q53 => ?_) (fun q53 => ?_)
        · replace hm := hm.1 q53
          refine xr_iconst (v := 0) C dX12_matched_205 rfl ?_
          refine xr_sub [0, 1, 2, 3, 5] rfl ?_
          exact k_X12_matched_L206 C hr hlk hnm hR hK4 hK125 a0 xv2 xv3 xv4 xv6 0 _ _ _ hm
        · replace hm := hm.2 q53
          refine xr_sub [0, 1, 2, 3, 5] rfl ?_
          exact k_X12_matched_L201 C hr hlk hnm hR hK4 hK125 a0 xv2 xv3 xv4 xv6 _ _ _ hm
    · replace hm := hm.2 q51
      refine xr_iload C dX12_matched_147 6 rfl ?_
      refine xr_if_eq (tgt := 182) C dX12_matched_149 (by decide) (fun q54 => ?_) (fun q54 => ?_)
      · replace hm := hm.1 q54
        refine xr_sub [0, 1, 2, 3, 4, 5, 7] rfl ?_
        exact k_X12_matched_L182 C hr hlk hnm hR hK4 hK125 ih a0 xv2 xv3 xv4 xv5 xv6 xv8 _ _ _ hm
      · replace hm := hm.2 q54
        refine xr_aload_n (r := (some a0)) C dX12_matched_152 0 rfl ?_
        obtain ⟨fs55, r56, e55, f55, hm⟩ := hm
        refine xr_get (ci := 13) C 60 e55 f55 rfl inX12 (by decide) wd_703 dX12_matched_153 ?_
        refine xr_bipush (v := 7) C dX12_matched_156 rfl ?_
        refine xr_iload C dX12_matched_158 5 rfl ?_
        refine xr_imul C dX12_matched_160 ?_
        refine xr_iload C dX12_matched_161 7 rfl ?_
        refine xr_iadd C dX12_matched_163 ?_
        obtain ⟨a58, rfl, hm⟩ := hm
        obtain ⟨N57, f57, y59, e57, b57, v57, hm⟩ := hm
        refine xr_lald C 1 rfl e57 b57 v57 dX12_matched_164 ?_
        refine xr_aload_n (r := (some a0)) C dX12_matched_165 0 rfl ?_
        obtain ⟨fs60, r61, e60, f60, hm⟩ := hm
        refine xr_get (ci := 13) C 62 e60 f60 rfl inX12 (by decide) wd_704 dX12_matched_166 ?_
        refine xr_iload_n C dX12_matched_169 2 rfl ?_
        refine xr_iload C dX12_matched_170 7 rfl ?_
        refine xr_iadd C dX12_matched_172 ?_
        obtain ⟨a63, rfl, hm⟩ := hm
        obtain ⟨N62, f62, y64, e62, b62, v62, hm⟩ := hm
        refine xr_lald C 1 rfl e62 b62 v62 dX12_matched_173 ?_
        refine xr_lcmp C dX12_matched_174 ?_
        refine xr_if_ne (tgt := 182) C dX12_matched_175 (by decide) (fun q65 => ?_) (fun q65 => ?_)
        · replace hm := hm.2 q65
          refine xr_sub [0, 1, 2, 3, 4, 5, 7] rfl ?_
          exact k_X12_matched_L182 C hr hlk hnm hR hK4 hK125 ih a0 xv2 xv3 xv4 xv5 xv6 xv8 _ _ _ hm
        · replace hm := hm.1 q65
          refine xr_iconst (v := 1) C dX12_matched_178 rfl ?_
          refine xr_goto (tgt := 183) C dX12_matched_179 (by decide) ?_
          refine xr_sub [0, 1, 2, 3, 4, 5, 7] rfl ?_
          exact k_X12_matched_L183 C hr hlk hnm hR hK4 hK125 ih a0 xv2 xv3 xv4 xv5 xv6 xv8 1 _ _ _ hm
set_option maxRecDepth 100000 in
set_option maxHeartbeats 4000000 in
theorem k_X12_matched_L293 {p : Program} {l : Launch} {e : Env} {R : Room} {s : State} {m : MethodId} {args : Array Value} {below : List Frame} {meth : Method} {c : Code} {D : va_G} {E : Ev} {A : Nat → Prop} {KC KS : Nat} (C : XC p R s m args c D E A 9 RX12 cX12_matched KC KS) (hr : meth.sig.returnType = (some .boolean)) (hlk : meth.locks = false) (hnm : meth.name = "matched") (hR : R.frames = 0 ∧ R.locals = 0) {K4 : Nat → Int32 → Int32 → Hp → Nat → Nat → Prop} {K234 : Nat → Int32 → Int32 → Int32 → Int32 → Hp → Nat → Nat → Prop} {Q : Int32 → Hp → Prop} (hK4 : ∀ (a0 : Nat) (xv1 : Int32) (xv2 : Int32) (h : Hp) (kc ks : Nat), K4 a0 xv1 xv2 h kc ks → XW p l e R s m args below meth c (MQ below (va_Qi Q (XPost D A) A) args s KC KS A) D A KC KS 9 h kc ks [(0, .ref a0), (1, .int xv1), (2, .int xv2)] 4 []) (hK234 : ∀ (a0 : Nat) (xv1 : Int32) (xv2 : Int32) (xv3 : Int32) (xv6 : Int32) (h : Hp) (kc ks : Nat), K234 a0 xv1 xv2 xv3 xv6 h kc ks → XW p l e R s m args below meth c (MQ below (va_Qi Q (XPost D A) A) args s KC KS A) D A KC KS 9 h kc ks [(0, .ref a0), (1, .int xv1), (2, .int xv2), (3, .int xv3), (6, .int xv6)] 234 []) : ∀ (a0 : Nat) (xv2 : Int32) (xv3 : Int32) (xv6 : Int32) (s0 : Int32) (h : Hp) (kc ks : Nat), m_X12_matched_L293 E a0 xv2 xv3 xv6 s0 h kc ks K4 K234 Q → XW p l e R s m args below meth c (MQ below (va_Qi Q (XPost D A) A) args s KC KS A) D A KC KS 9 h kc ks [(0, .ref a0), (2, .int xv2), (3, .int xv3), (6, .int xv6)] 293 [.int s0] := by
  intro a0 xv2 xv3 xv6 s0 h kc ks hm
  refine xr_istore_n (lv' := [(1, .int s0), (0, .ref a0), (2, .int xv2), (3, .int xv3), (6, .int xv6)]) C dX12_matched_293 (by decide) rfl ?_
  refine xr_iinc (j := 4) (v := xv6 + 1) (lv' := [(6, .int (xv6 + 1)), (1, .int s0), (0, .ref a0), (2, .int xv2), (3, .int xv3)]) C dX12_matched_294 rfl rfl (by decide) rfl ?_
  refine xr_goto (tgt := 234) C dX12_matched_297 (by decide) ?_
  refine xr_sub [2, 1, 3, 4, 0] rfl ?_
  exact hK234 a0 s0 xv2 xv3 (xv6 + 1) _ _ _ hm
set_option maxRecDepth 100000 in
set_option maxHeartbeats 4000000 in
theorem k_X12_matched_L288 {p : Program} {l : Launch} {e : Env} {R : Room} {s : State} {m : MethodId} {args : Array Value} {below : List Frame} {meth : Method} {c : Code} {D : va_G} {E : Ev} {A : Nat → Prop} {KC KS : Nat} (C : XC p R s m args c D E A 9 RX12 cX12_matched KC KS) (hr : meth.sig.returnType = (some .boolean)) (hlk : meth.locks = false) (hnm : meth.name = "matched") (hR : R.frames = 0 ∧ R.locals = 0) {K4 : Nat → Int32 → Int32 → Hp → Nat → Nat → Prop} {K234 : Nat → Int32 → Int32 → Int32 → Int32 → Hp → Nat → Nat → Prop} {Q : Int32 → Hp → Prop} (hK4 : ∀ (a0 : Nat) (xv1 : Int32) (xv2 : Int32) (h : Hp) (kc ks : Nat), K4 a0 xv1 xv2 h kc ks → XW p l e R s m args below meth c (MQ below (va_Qi Q (XPost D A) A) args s KC KS A) D A KC KS 9 h kc ks [(0, .ref a0), (1, .int xv1), (2, .int xv2)] 4 []) (hK234 : ∀ (a0 : Nat) (xv1 : Int32) (xv2 : Int32) (xv3 : Int32) (xv6 : Int32) (h : Hp) (kc ks : Nat), K234 a0 xv1 xv2 xv3 xv6 h kc ks → XW p l e R s m args below meth c (MQ below (va_Qi Q (XPost D A) A) args s KC KS A) D A KC KS 9 h kc ks [(0, .ref a0), (1, .int xv1), (2, .int xv2), (3, .int xv3), (6, .int xv6)] 234 []) : ∀ (a0 : Nat) (xv2 : Int32) (xv3 : Int32) (xv6 : Int32) (h : Hp) (kc ks : Nat), m_X12_matched_L288 E a0 xv2 xv3 xv6 h kc ks K4 K234 Q → XW p l e R s m args below meth c (MQ below (va_Qi Q (XPost D A) A) args s KC KS A) D A KC KS 9 h kc ks [(0, .ref a0), (2, .int xv2), (3, .int xv3), (6, .int xv6)] 288 [] := by
  intro a0 xv2 xv3 xv6 h kc ks hm
  refine xr_iconst (v := 1) C dX12_matched_288 rfl ?_
  refine xr_goto (tgt := 293) C dX12_matched_289 (by decide) ?_
  exact k_X12_matched_L293 C hr hlk hnm hR hK4 hK234 a0 xv2 xv3 xv6 1 _ _ _ hm
set_option maxRecDepth 100000 in
set_option maxHeartbeats 4000000 in
theorem k_X12_matched_L292 {p : Program} {l : Launch} {e : Env} {R : Room} {s : State} {m : MethodId} {args : Array Value} {below : List Frame} {meth : Method} {c : Code} {D : va_G} {E : Ev} {A : Nat → Prop} {KC KS : Nat} (C : XC p R s m args c D E A 9 RX12 cX12_matched KC KS) (hr : meth.sig.returnType = (some .boolean)) (hlk : meth.locks = false) (hnm : meth.name = "matched") (hR : R.frames = 0 ∧ R.locals = 0) {K4 : Nat → Int32 → Int32 → Hp → Nat → Nat → Prop} {K234 : Nat → Int32 → Int32 → Int32 → Int32 → Hp → Nat → Nat → Prop} {Q : Int32 → Hp → Prop} (hK4 : ∀ (a0 : Nat) (xv1 : Int32) (xv2 : Int32) (h : Hp) (kc ks : Nat), K4 a0 xv1 xv2 h kc ks → XW p l e R s m args below meth c (MQ below (va_Qi Q (XPost D A) A) args s KC KS A) D A KC KS 9 h kc ks [(0, .ref a0), (1, .int xv1), (2, .int xv2)] 4 []) (hK234 : ∀ (a0 : Nat) (xv1 : Int32) (xv2 : Int32) (xv3 : Int32) (xv6 : Int32) (h : Hp) (kc ks : Nat), K234 a0 xv1 xv2 xv3 xv6 h kc ks → XW p l e R s m args below meth c (MQ below (va_Qi Q (XPost D A) A) args s KC KS A) D A KC KS 9 h kc ks [(0, .ref a0), (1, .int xv1), (2, .int xv2), (3, .int xv3), (6, .int xv6)] 234 []) : ∀ (a0 : Nat) (xv2 : Int32) (xv3 : Int32) (xv6 : Int32) (h : Hp) (kc ks : Nat), m_X12_matched_L292 E a0 xv2 xv3 xv6 h kc ks K4 K234 Q → XW p l e R s m args below meth c (MQ below (va_Qi Q (XPost D A) A) args s KC KS A) D A KC KS 9 h kc ks [(0, .ref a0), (2, .int xv2), (3, .int xv3), (6, .int xv6)] 292 [] := by
  intro a0 xv2 xv3 xv6 h kc ks hm
  refine xr_iconst (v := 0) C dX12_matched_292 rfl ?_
  exact k_X12_matched_L293 C hr hlk hnm hR hK4 hK234 a0 xv2 xv3 xv6 0 _ _ _ hm
set_option maxRecDepth 100000 in
set_option maxHeartbeats 4000000 in
theorem k_X12_matched_L234 {p : Program} {l : Launch} {e : Env} {R : Room} {s : State} {m : MethodId} {args : Array Value} {below : List Frame} {meth : Method} {c : Code} {D : va_G} {E : Ev} {A : Nat → Prop} {KC KS : Nat} (C : XC p R s m args c D E A 9 RX12 cX12_matched KC KS) (hr : meth.sig.returnType = (some .boolean)) (hlk : meth.locks = false) (hnm : meth.name = "matched") (hR : R.frames = 0 ∧ R.locals = 0) {K4 : Nat → Int32 → Int32 → Hp → Nat → Nat → Prop} {Q : Int32 → Hp → Prop} (hK4 : ∀ (a0 : Nat) (xv1 : Int32) (xv2 : Int32) (h : Hp) (kc ks : Nat), K4 a0 xv1 xv2 h kc ks → XW p l e R s m args below meth c (MQ below (va_Qi Q (XPost D A) A) args s KC KS A) D A KC KS 9 h kc ks [(0, .ref a0), (1, .int xv1), (2, .int xv2)] 4 []) : ∀ (n : Nat) (a0 : Nat) (xv1 : Int32) (xv2 : Int32) (xv3 : Int32) (xv6 : Int32) (h : Hp) (kc ks : Nat), m_X12_matched_L234 n E a0 xv1 xv2 xv3 xv6 h kc ks K4 Q → XW p l e R s m args below meth c (MQ below (va_Qi Q (XPost D A) A) args s KC KS A) D A KC KS 9 h kc ks [(0, .ref a0), (1, .int xv1), (2, .int xv2), (3, .int xv3), (6, .int xv6)] 234 [] := by
  intro n
  induction n with
  | zero => intro a0 xv1 xv2 xv3 xv6 h kc ks hm; exact False.elim hm
  | succ n ih =>
    intro a0 xv1 xv2 xv3 xv6 h kc ks hm
    refine xr_iload C dX12_matched_234 4 rfl ?_
    refine xr_iload_n C dX12_matched_236 2 rfl ?_
    refine xr_icmp_ge (tgt := 300) C dX12_matched_237 (by decide) (fun q66 => ?_) (fun q66 => ?_)
    · replace hm := hm.1 q66
      refine xr_iinc (j := 2) (v := xv2 + 1) (lv' := [(2, .int (xv2 + 1)), (0, .ref a0), (1, .int xv1), (3, .int xv3), (6, .int xv6)]) C dX12_matched_300 rfl rfl (by decide) rfl ?_
      refine xr_goto (tgt := 4) C dX12_matched_303 (by decide) ?_
      refine xr_sub [1, 2, 0] rfl ?_
      exact hK4 a0 xv1 (xv2 + 1) _ _ _ hm
    · replace hm := hm.2 q66
      refine xr_iload_n C dX12_matched_240 1 rfl ?_
      refine xr_if_eq (tgt := 292) C dX12_matched_241 (by decide) (fun q67 => ?_) (fun q67 => ?_)
      · replace hm := hm.1 q67
        refine xr_sub [0, 2, 3, 4] rfl ?_
        exact k_X12_matched_L292 C hr hlk hnm hR hK4 ih a0 xv2 xv3 xv6 _ _ _ hm
      · replace hm := hm.2 q67
        refine xr_aload_n (r := (some a0)) C dX12_matched_244 0 rfl ?_
        obtain ⟨fs68, r69, e68, f68, hm⟩ := hm
        refine xr_get (ci := 13) C 62 e68 f68 rfl inX12 (by decide) wd_704 dX12_matched_245 ?_
        refine xr_bipush (v := 7) C dX12_matched_248 rfl ?_
        refine xr_iload C dX12_matched_250 4 rfl ?_
        refine xr_imul C dX12_matched_252 ?_
        obtain ⟨a71, rfl, hm⟩ := hm
        obtain ⟨N70, f70, y72, e70, b70, v70, hm⟩ := hm
        refine xr_lald C 1 rfl e70 b70 v70 dX12_matched_253 ?_
        refine xr_aload_n (r := (some a0)) C dX12_matched_254 0 rfl ?_
        obtain ⟨fs73, r74, e73, f73, hm⟩ := hm
        refine xr_get (ci := 13) C 62 e73 f73 rfl inX12 (by decide) wd_704 dX12_matched_255 ?_
        refine xr_iload_n C dX12_matched_258 3 rfl ?_
        obtain ⟨a76, rfl, hm⟩ := hm
        obtain ⟨N75, f75, y77, e75, b75, v75, hm⟩ := hm
        refine xr_lald C 1 rfl e75 b75 v75 dX12_matched_259 ?_
        refine xr_lcmp C dX12_matched_260 ?_
        refine xr_if_ne (tgt := 288) C dX12_matched_261 (by decide) (fun q78 => ?_) (fun q78 => ?_)
        · replace hm := hm.2 q78
          refine xr_sub [0, 2, 3, 4] rfl ?_
          exact k_X12_matched_L288 C hr hlk hnm hR hK4 ih a0 xv2 xv3 xv6 _ _ _ hm
        · replace hm := hm.1 q78
          refine xr_aload_n (r := (some a0)) C dX12_matched_264 0 rfl ?_
          obtain ⟨fs79, r80, e79, f79, hm⟩ := hm
          refine xr_get (ci := 13) C 62 e79 f79 rfl inX12 (by decide) wd_704 dX12_matched_265 ?_
          refine xr_bipush (v := 7) C dX12_matched_268 rfl ?_
          refine xr_iload C dX12_matched_270 4 rfl ?_
          refine xr_imul C dX12_matched_272 ?_
          refine xr_iconst (v := 1) C dX12_matched_273 rfl ?_
          refine xr_iadd C dX12_matched_274 ?_
          obtain ⟨a82, rfl, hm⟩ := hm
          obtain ⟨N81, f81, y83, e81, b81, v81, hm⟩ := hm
          refine xr_lald C 1 rfl e81 b81 v81 dX12_matched_275 ?_
          refine xr_aload_n (r := (some a0)) C dX12_matched_276 0 rfl ?_
          obtain ⟨fs84, r85, e84, f84, hm⟩ := hm
          refine xr_get (ci := 13) C 62 e84 f84 rfl inX12 (by decide) wd_704 dX12_matched_277 ?_
          refine xr_iload_n C dX12_matched_280 3 rfl ?_
          refine xr_iconst (v := 1) C dX12_matched_281 rfl ?_
          refine xr_iadd C dX12_matched_282 ?_
          obtain ⟨a87, rfl, hm⟩ := hm
          obtain ⟨N86, f86, y88, e86, b86, v86, hm⟩ := hm
          refine xr_lald C 1 rfl e86 b86 v86 dX12_matched_283 ?_
          refine xr_lcmp C dX12_matched_284 ?_
          refine xr_if_eq (tgt := 292) C dX12_matched_285 (by decide) (fun q89 => ?_) (fun q89 => ?_)
          · replace hm := hm.1 q89
            refine xr_sub [0, 2, 3, 4] rfl ?_
            exact k_X12_matched_L292 C hr hlk hnm hR hK4 ih a0 xv2 xv3 xv6 _ _ _ hm
          · replace hm := hm.2 q89
            refine xr_sub [0, 2, 3, 4] rfl ?_
            exact k_X12_matched_L288 C hr hlk hnm hR hK4 ih a0 xv2 xv3 xv6 _ _ _ hm
set_option maxRecDepth 100000 in
set_option maxHeartbeats 4000000 in
theorem k_X12_matched_L230 {p : Program} {l : Launch} {e : Env} {R : Room} {s : State} {m : MethodId} {args : Array Value} {below : List Frame} {meth : Method} {c : Code} {D : va_G} {E : Ev} {A : Nat → Prop} {KC KS : Nat} (C : XC p R s m args c D E A 9 RX12 cX12_matched KC KS) (hr : meth.sig.returnType = (some .boolean)) (hlk : meth.locks = false) (hnm : meth.name = "matched") (hR : R.frames = 0 ∧ R.locals = 0) {K4 : Nat → Int32 → Int32 → Hp → Nat → Nat → Prop} {Q : Int32 → Hp → Prop} (hK4 : ∀ (a0 : Nat) (xv1 : Int32) (xv2 : Int32) (h : Hp) (kc ks : Nat), K4 a0 xv1 xv2 h kc ks → XW p l e R s m args below meth c (MQ below (va_Qi Q (XPost D A) A) args s KC KS A) D A KC KS 9 h kc ks [(0, .ref a0), (1, .int xv1), (2, .int xv2)] 4 []) : ∀ (a0 : Nat) (xv2 : Int32) (xv3 : Int32) (s0 : Int32) (h : Hp) (kc ks : Nat), m_X12_matched_L230 E a0 xv2 xv3 s0 h kc ks K4 Q → XW p l e R s m args below meth c (MQ below (va_Qi Q (XPost D A) A) args s KC KS A) D A KC KS 9 h kc ks [(0, .ref a0), (2, .int xv2), (3, .int xv3)] 230 [.int s0] := by
  intro a0 xv2 xv3 s0 h kc ks hm
  refine xr_istore_n (lv' := [(1, .int s0), (0, .ref a0), (2, .int xv2), (3, .int xv3)]) C dX12_matched_230 (by decide) rfl ?_
  refine xr_iconst (v := 0) C dX12_matched_231 rfl ?_
  refine xr_istore (lv' := [(6, .int 0), (1, .int s0), (0, .ref a0), (2, .int xv2), (3, .int xv3)]) C dX12_matched_232 (by decide) rfl ?_
  obtain ⟨n50, hm⟩ := hm
  refine xr_sub [2, 1, 3, 4, 0] rfl ?_
  exact k_X12_matched_L234 C hr hlk hnm hR hK4 n50 a0 s0 xv2 xv3 0 _ _ _ hm
set_option maxRecDepth 100000 in
set_option maxHeartbeats 4000000 in
theorem k_X12_matched_L229 {p : Program} {l : Launch} {e : Env} {R : Room} {s : State} {m : MethodId} {args : Array Value} {below : List Frame} {meth : Method} {c : Code} {D : va_G} {E : Ev} {A : Nat → Prop} {KC KS : Nat} (C : XC p R s m args c D E A 9 RX12 cX12_matched KC KS) (hr : meth.sig.returnType = (some .boolean)) (hlk : meth.locks = false) (hnm : meth.name = "matched") (hR : R.frames = 0 ∧ R.locals = 0) {K4 : Nat → Int32 → Int32 → Hp → Nat → Nat → Prop} {Q : Int32 → Hp → Prop} (hK4 : ∀ (a0 : Nat) (xv1 : Int32) (xv2 : Int32) (h : Hp) (kc ks : Nat), K4 a0 xv1 xv2 h kc ks → XW p l e R s m args below meth c (MQ below (va_Qi Q (XPost D A) A) args s KC KS A) D A KC KS 9 h kc ks [(0, .ref a0), (1, .int xv1), (2, .int xv2)] 4 []) : ∀ (a0 : Nat) (xv2 : Int32) (xv3 : Int32) (h : Hp) (kc ks : Nat), m_X12_matched_L229 E a0 xv2 xv3 h kc ks K4 Q → XW p l e R s m args below meth c (MQ below (va_Qi Q (XPost D A) A) args s KC KS A) D A KC KS 9 h kc ks [(0, .ref a0), (2, .int xv2), (3, .int xv3)] 229 [] := by
  intro a0 xv2 xv3 h kc ks hm
  refine xr_iconst (v := 0) C dX12_matched_229 rfl ?_
  exact k_X12_matched_L230 C hr hlk hnm hR hK4 a0 xv2 xv3 0 _ _ _ hm
set_option maxRecDepth 100000 in
set_option maxHeartbeats 4000000 in
theorem k_X12_matched_L125 {p : Program} {l : Launch} {e : Env} {R : Room} {s : State} {m : MethodId} {args : Array Value} {below : List Frame} {meth : Method} {c : Code} {D : va_G} {E : Ev} {A : Nat → Prop} {KC KS : Nat} (C : XC p R s m args c D E A 9 RX12 cX12_matched KC KS) (hr : meth.sig.returnType = (some .boolean)) (hlk : meth.locks = false) (hnm : meth.name = "matched") (hR : R.frames = 0 ∧ R.locals = 0) {K4 : Nat → Int32 → Int32 → Hp → Nat → Nat → Prop} {Q : Int32 → Hp → Prop} (hK4 : ∀ (a0 : Nat) (xv1 : Int32) (xv2 : Int32) (h : Hp) (kc ks : Nat), K4 a0 xv1 xv2 h kc ks → XW p l e R s m args below meth c (MQ below (va_Qi Q (XPost D A) A) args s KC KS A) D A KC KS 9 h kc ks [(0, .ref a0), (1, .int xv1), (2, .int xv2)] 4 []) : ∀ (n : Nat) (a0 : Nat) (xv2 : Int32) (xv3 : Int32) (xv4 : Int32) (xv5 : Int32) (xv6 : Int32) (h : Hp) (kc ks : Nat), m_X12_matched_L125 n E a0 xv2 xv3 xv4 xv5 xv6 h kc ks K4 Q → XW p l e R s m args below meth c (MQ below (va_Qi Q (XPost D A) A) args s KC KS A) D A KC KS 9 h kc ks [(0, .ref a0), (2, .int xv2), (3, .int xv3), (4, .int xv4), (5, .int xv5), (6, .int xv6)] 125 [] := by
  intro n
  induction n with
  | zero => intro a0 xv2 xv3 xv4 xv5 xv6 h kc ks hm; exact False.elim hm
  | succ n ih =>
    intro a0 xv2 xv3 xv4 xv5 xv6 h kc ks hm
    refine xr_iload C dX12_matched_125 5 rfl ?_
    refine xr_aload_n (r := (some a0)) C dX12_matched_127 0 rfl ?_
    obtain ⟨fs44, x45, e44, f44, hm⟩ := hm
    refine xr_get (ci := 13) C 59 e44 f44 rfl inX12 (by decide) wd_742 dX12_matched_128 ?_
    refine xr_icmp_ge (tgt := 214) C dX12_matched_131 (by decide) (fun q46 => ?_) (fun q46 => ?_)
    · replace hm := hm.1 q46
      refine xr_iload C dX12_matched_214 3 rfl ?_
      refine xr_iconst (v := 1) C dX12_matched_216 rfl ?_
      refine xr_icmp_ne (tgt := 229) C dX12_matched_217 (by decide) (fun q47 => ?_) (fun q47 => ?_)
      · replace hm := hm.2 q47
        refine xr_sub [0, 1, 2] rfl ?_
        exact k_X12_matched_L229 C hr hlk hnm hR hK4 a0 xv2 xv3 _ _ _ hm
      · replace hm := hm.1 q47
        refine xr_iload C dX12_matched_220 4 rfl ?_
        refine xr_if_eq (tgt := 229) C dX12_matched_222 (by decide) (fun q48 => ?_) (fun q48 => ?_)
        · replace hm := hm.1 q48
          refine xr_sub [0, 1, 2] rfl ?_
          exact k_X12_matched_L229 C hr hlk hnm hR hK4 a0 xv2 xv3 _ _ _ hm
        · replace hm := hm.2 q48
          refine xr_iconst (v := 1) C dX12_matched_225 rfl ?_
          refine xr_goto (tgt := 230) C dX12_matched_226 (by decide) ?_
          refine xr_sub [0, 1, 2] rfl ?_
          exact k_X12_matched_L230 C hr hlk hnm hR hK4 a0 xv2 xv3 1 _ _ _ hm
    · replace hm := hm.2 q46
      refine xr_iconst (v := 1) C dX12_matched_134 rfl ?_
      refine xr_istore (lv' := [(7, .int 1), (0, .ref a0), (2, .int xv2), (3, .int xv3), (4, .int xv4), (5, .int xv5), (6, .int xv6)]) C dX12_matched_135 (by decide) rfl ?_
      refine xr_iconst (v := 0) C dX12_matched_137 rfl ?_
      refine xr_istore (lv' := [(8, .int 0), (7, .int 1), (0, .ref a0), (2, .int xv2), (3, .int xv3), (4, .int xv4), (5, .int xv5), (6, .int xv6)]) C dX12_matched_138 (by decide) rfl ?_
      obtain ⟨n49, hm⟩ := hm
      refine xr_sub [2, 3, 4, 5, 6, 7, 1, 0] rfl ?_
      exact k_X12_matched_L140 C hr hlk hnm hR hK4 ih n49 a0 xv2 xv3 xv4 xv5 xv6 1 0 _ _ _ hm
set_option maxRecDepth 100000 in
set_option maxHeartbeats 4000000 in
theorem k_X12_matched_L27 {p : Program} {l : Launch} {e : Env} {R : Room} {s : State} {m : MethodId} {args : Array Value} {below : List Frame} {meth : Method} {c : Code} {D : va_G} {E : Ev} {A : Nat → Prop} {KC KS : Nat} (C : XC p R s m args c D E A 9 RX12 cX12_matched KC KS) (hr : meth.sig.returnType = (some .boolean)) (hlk : meth.locks = false) (hnm : meth.name = "matched") (hR : R.frames = 0 ∧ R.locals = 0) {K4 : Nat → Int32 → Int32 → Hp → Nat → Nat → Prop} {Q : Int32 → Hp → Prop} (hK4 : ∀ (a0 : Nat) (xv1 : Int32) (xv2 : Int32) (h : Hp) (kc ks : Nat), K4 a0 xv1 xv2 h kc ks → XW p l e R s m args below meth c (MQ below (va_Qi Q (XPost D A) A) args s KC KS A) D A KC KS 9 h kc ks [(0, .ref a0), (1, .int xv1), (2, .int xv2)] 4 []) : ∀ (n : Nat) (a0 : Nat) (xv2 : Int32) (xv3 : Int32) (xv4 : Int32) (xv5 : Int32) (h : Hp) (kc ks : Nat), m_X12_matched_L27 n E a0 xv2 xv3 xv4 xv5 h kc ks K4 Q → XW p l e R s m args below meth c (MQ below (va_Qi Q (XPost D A) A) args s KC KS A) D A KC KS 9 h kc ks [(0, .ref a0), (2, .int xv2), (3, .int xv3), (4, .int xv4), (5, .int xv5)] 27 [] := by
  intro n
  induction n with
  | zero => intro a0 xv2 xv3 xv4 xv5 h kc ks hm; exact False.elim hm
  | succ n ih =>
    intro a0 xv2 xv3 xv4 xv5 h kc ks hm
    refine xr_iload C dX12_matched_27 4 rfl ?_
    refine xr_aload_n (r := (some a0)) C dX12_matched_29 0 rfl ?_
    obtain ⟨fs7, x8, e7, f7, hm⟩ := hm
    refine xr_get (ci := 13) C 57 e7 f7 rfl inX12 (by decide) wd_857 dX12_matched_30 ?_
    refine xr_icmp_ge (tgt := 119) C dX12_matched_33 (by decide) (fun q9 => ?_) (fun q9 => ?_)
    · replace hm := hm.1 q9
      refine xr_iconst (v := 0) C dX12_matched_119 rfl ?_
      refine xr_istore (lv' := [(5, .int 0), (0, .ref a0), (2, .int xv2), (3, .int xv3), (4, .int xv4)]) C dX12_matched_120 (by decide) rfl ?_
      refine xr_iconst (v := 0) C dX12_matched_122 rfl ?_
      refine xr_istore (lv' := [(6, .int 0), (5, .int 0), (0, .ref a0), (2, .int xv2), (3, .int xv3), (4, .int xv4)]) C dX12_matched_123 (by decide) rfl ?_
      obtain ⟨n10, hm⟩ := hm
      refine xr_sub [2, 3, 4, 5, 1, 0] rfl ?_
      exact k_X12_matched_L125 C hr hlk hnm hR hK4 n10 a0 xv2 xv3 xv4 0 0 _ _ _ hm
    · replace hm := hm.2 q9
      refine xr_iload C dX12_matched_36 3 rfl ?_
      refine xr_aload_n (r := (some a0)) C dX12_matched_38 0 rfl ?_
      obtain ⟨fs11, r12, e11, f11, hm⟩ := hm
      refine xr_get (ci := 13) C 58 e11 f11 rfl inX12 (by decide) wd_702 dX12_matched_39 ?_
      refine xr_iconst (v := 3) C dX12_matched_42 rfl ?_
      refine xr_iload C dX12_matched_43 4 rfl ?_
      refine xr_imul C dX12_matched_45 ?_
      obtain ⟨a14, rfl, hm⟩ := hm
      obtain ⟨N13, f13, y15, e13, b13, v13, hm⟩ := hm
      refine xr_lald C 1 rfl e13 b13 v13 dX12_matched_46 ?_
      refine xr_aload_n (r := (some a0)) C dX12_matched_47 0 rfl ?_
      obtain ⟨fs16, r17, e16, f16, hm⟩ := hm
      refine xr_get (ci := 13) C 62 e16 f16 rfl inX12 (by decide) wd_704 dX12_matched_48 ?_
      refine xr_iload_n C dX12_matched_51 2 rfl ?_
      refine xr_iconst (v := 4) C dX12_matched_52 rfl ?_
      refine xr_iadd C dX12_matched_53 ?_
      obtain ⟨a19, rfl, hm⟩ := hm
      obtain ⟨N18, f18, y20, e18, b18, v18, hm⟩ := hm
      refine xr_lald C 1 rfl e18 b18 v18 dX12_matched_54 ?_
      refine xr_lcmp C dX12_matched_55 ?_
      refine xr_if_ne (tgt := 109) C dX12_matched_56 (by decide) (fun q21 => ?_) (fun q21 => ?_)
      · replace hm := hm.2 q21
        refine xr_sub [0, 1, 2, 4] rfl ?_
        exact k_X12_matched_L109 C hr hlk hnm hR hK4 ih a0 xv2 xv3 xv5 xv4 _ _ _ hm
      · replace hm := hm.1 q21
        refine xr_aload_n (r := (some a0)) C dX12_matched_59 0 rfl ?_
        obtain ⟨fs22, r23, e22, f22, hm⟩ := hm
        refine xr_get (ci := 13) C 58 e22 f22 rfl inX12 (by decide) wd_702 dX12_matched_60 ?_
        refine xr_iconst (v := 3) C dX12_matched_63 rfl ?_
        refine xr_iload C dX12_matched_64 4 rfl ?_
        refine xr_imul C dX12_matched_66 ?_
        refine xr_iconst (v := 1) C dX12_matched_67 rfl ?_
        refine xr_iadd C dX12_matched_68 ?_
        obtain ⟨a25, rfl, hm⟩ := hm
        obtain ⟨N24, f24, y26, e24, b24, v24, hm⟩ := hm
        refine xr_lald C 1 rfl e24 b24 v24 dX12_matched_69 ?_
        refine xr_aload_n (r := (some a0)) C dX12_matched_70 0 rfl ?_
        obtain ⟨fs27, r28, e27, f27, hm⟩ := hm
        refine xr_get (ci := 13) C 62 e27 f27 rfl inX12 (by decide) wd_704 dX12_matched_71 ?_
        refine xr_iload_n C dX12_matched_74 2 rfl ?_
        refine xr_iconst (v := 2) C dX12_matched_75 rfl ?_
        refine xr_iadd C dX12_matched_76 ?_
        obtain ⟨a30, rfl, hm⟩ := hm
        obtain ⟨N29, f29, y31, e29, b29, v29, hm⟩ := hm
        refine xr_lald C 1 rfl e29 b29 v29 dX12_matched_77 ?_
        refine xr_lcmp C dX12_matched_78 ?_
        refine xr_if_ne (tgt := 109) C dX12_matched_79 (by decide) (fun q32 => ?_) (fun q32 => ?_)
        · replace hm := hm.2 q32
          refine xr_sub [0, 1, 2, 4] rfl ?_
          exact k_X12_matched_L109 C hr hlk hnm hR hK4 ih a0 xv2 xv3 xv5 xv4 _ _ _ hm
        · replace hm := hm.1 q32
          refine xr_aload_n (r := (some a0)) C dX12_matched_82 0 rfl ?_
          obtain ⟨fs33, r34, e33, f33, hm⟩ := hm
          refine xr_get (ci := 13) C 58 e33 f33 rfl inX12 (by decide) wd_702 dX12_matched_83 ?_
          refine xr_iconst (v := 3) C dX12_matched_86 rfl ?_
          refine xr_iload C dX12_matched_87 4 rfl ?_
          refine xr_imul C dX12_matched_89 ?_
          refine xr_iconst (v := 2) C dX12_matched_90 rfl ?_
          refine xr_iadd C dX12_matched_91 ?_
          obtain ⟨a36, rfl, hm⟩ := hm
          obtain ⟨N35, f35, y37, e35, b35, v35, hm⟩ := hm
          refine xr_lald C 1 rfl e35 b35 v35 dX12_matched_92 ?_
          refine xr_aload_n (r := (some a0)) C dX12_matched_93 0 rfl ?_
          obtain ⟨fs38, r39, e38, f38, hm⟩ := hm
          refine xr_get (ci := 13) C 62 e38 f38 rfl inX12 (by decide) wd_704 dX12_matched_94 ?_
          refine xr_iload_n C dX12_matched_97 2 rfl ?_
          refine xr_iconst (v := 3) C dX12_matched_98 rfl ?_
          refine xr_iadd C dX12_matched_99 ?_
          obtain ⟨a41, rfl, hm⟩ := hm
          obtain ⟨N40, f40, y42, e40, b40, v40, hm⟩ := hm
          refine xr_lald C 1 rfl e40 b40 v40 dX12_matched_100 ?_
          refine xr_lcmp C dX12_matched_101 ?_
          refine xr_if_ne (tgt := 109) C dX12_matched_102 (by decide) (fun q43 => ?_) (fun q43 => ?_)
          · replace hm := hm.2 q43
            refine xr_sub [0, 1, 2, 4] rfl ?_
            exact k_X12_matched_L109 C hr hlk hnm hR hK4 ih a0 xv2 xv3 xv5 xv4 _ _ _ hm
          · replace hm := hm.1 q43
            refine xr_iconst (v := 1) C dX12_matched_105 rfl ?_
            refine xr_goto (tgt := 110) C dX12_matched_106 (by decide) ?_
            refine xr_sub [0, 1, 2, 4] rfl ?_
            exact k_X12_matched_L110 C hr hlk hnm hR hK4 ih a0 xv2 xv3 xv5 1 xv4 _ _ _ hm
set_option maxRecDepth 100000 in
set_option maxHeartbeats 4000000 in
theorem k_X12_matched_L4 {p : Program} {l : Launch} {e : Env} {R : Room} {s : State} {m : MethodId} {args : Array Value} {below : List Frame} {meth : Method} {c : Code} {D : va_G} {E : Ev} {A : Nat → Prop} {KC KS : Nat} (C : XC p R s m args c D E A 9 RX12 cX12_matched KC KS) (hr : meth.sig.returnType = (some .boolean)) (hlk : meth.locks = false) (hnm : meth.name = "matched") (hR : R.frames = 0 ∧ R.locals = 0) {Q : Int32 → Hp → Prop} : ∀ (n : Nat) (a0 : Nat) (xv1 : Int32) (xv2 : Int32) (h : Hp) (kc ks : Nat), m_X12_matched_L4 n E a0 xv1 xv2 h kc ks Q → XW p l e R s m args below meth c (MQ below (va_Qi Q (XPost D A) A) args s KC KS A) D A KC KS 9 h kc ks [(0, .ref a0), (1, .int xv1), (2, .int xv2)] 4 [] := by
  intro n
  induction n with
  | zero => intro a0 xv1 xv2 h kc ks hm; exact False.elim hm
  | succ n ih =>
    intro a0 xv1 xv2 h kc ks hm
    refine xr_iload_n C dX12_matched_4 2 rfl ?_
    refine xr_aload_n (r := (some a0)) C dX12_matched_5 0 rfl ?_
    obtain ⟨fs2, x3, e2, f2, hm⟩ := hm
    refine xr_get (ci := 13) C 61 e2 f2 rfl inX12 (by decide) wd_810 dX12_matched_6 ?_
    refine xr_icmp_ge (tgt := 306) C dX12_matched_9 (by decide) (fun q4 => ?_) (fun q4 => ?_)
    · replace hm := hm.1 q4
      refine xr_iload_n C dX12_matched_306 1 rfl ?_
      exact xr_zreturn C hr hlk hm.1 hm.2 dX12_matched_307
    · replace hm := hm.2 q4
      refine xr_iload_n C dX12_matched_12 1 rfl ?_
      refine xr_if_eq (tgt := 306) C dX12_matched_13 (by decide) (fun q5 => ?_) (fun q5 => ?_)
      · replace hm := hm.1 q5
        refine xr_iload_n C dX12_matched_306 1 rfl ?_
        exact xr_zreturn C hr hlk hm.1 hm.2 dX12_matched_307
      · replace hm := hm.2 q5
        refine xr_bipush (v := 7) C dX12_matched_16 rfl ?_
        refine xr_iload_n C dX12_matched_18 2 rfl ?_
        refine xr_imul C dX12_matched_19 ?_
        refine xr_istore_n (lv' := [(3, .int (7 * xv2)), (0, .ref a0), (1, .int xv1), (2, .int xv2)]) C dX12_matched_20 (by decide) rfl ?_
        refine xr_iconst (v := 0) C dX12_matched_21 rfl ?_
        refine xr_istore (lv' := [(4, .int 0), (3, .int (7 * xv2)), (0, .ref a0), (1, .int xv1), (2, .int xv2)]) C dX12_matched_22 (by decide) rfl ?_
        refine xr_iconst (v := 0) C dX12_matched_24 rfl ?_
        refine xr_istore (lv' := [(5, .int 0), (4, .int 0), (3, .int (7 * xv2)), (0, .ref a0), (1, .int xv1), (2, .int xv2)]) C dX12_matched_25 (by decide) rfl ?_
        obtain ⟨n6, hm⟩ := hm
        refine xr_sub [3, 5, 2, 1, 0] rfl ?_
        exact k_X12_matched_L27 C hr hlk hnm hR ih n6 a0 xv2 (7 * xv2) 0 0 _ _ _ hm
set_option maxRecDepth 100000 in
set_option maxHeartbeats 4000000 in
theorem c_X12_matched {l : Launch} {D : va_G} {E : Ev} (a0 : Nat) (h : Hp) (kc ks : Nat) {Q : Int32 → Hp → Prop} (hm : m_X12_matched E a0 h kc ks Q) : XMet l yX12_matched cX12_matched 9 (some .boolean) 0 0 kc ks D E h [.ref a0] (fun A => va_Qi Q (XPost D A) A) := by
  refine xm_of (lv0 := [(0, .ref a0)]) (by decide) (Nat.le_of_ble_eq_true rfl) rfl RX12 rfl (fun p e s m args below meth c A R hRm C hr hlk hnm => ?_)
  have hR : R.frames = 0 ∧ R.locals = 0 := by rw [hRm]; exact ⟨rfl, rfl⟩
  refine xr_iconst (v := 1) C dX12_matched_0 rfl ?_
  refine xr_istore_n (lv' := [(1, .int 1), (0, .ref a0)]) C dX12_matched_1 (by decide) rfl ?_
  refine xr_iconst (v := 0) C dX12_matched_2 rfl ?_
  refine xr_istore_n (lv' := [(2, .int 0), (1, .int 1), (0, .ref a0)]) C dX12_matched_3 (by decide) rfl ?_
  obtain ⟨n1, hm⟩ := hm
  refine xr_sub [2, 1, 0] rfl ?_
  exact k_X12_matched_L4 C hr hlk hnm hR n1 a0 1 0 _ _ _ hm
