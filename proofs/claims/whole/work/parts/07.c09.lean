set_option maxRecDepth 100000 in
set_option maxHeartbeats 4000000 in
theorem c_X12_takeWord {l : Launch} {D : va_G} {E : Ev} (a0 : Nat) (xp1 : Int32) (h : Hp) (kc ks : Nat) {Q : Int32 → Hp → Prop} (hm : m_X12_takeWord E a0 xp1 h kc ks Q) : XMet l yX12_takeWord cX12_takeWord 2 (some .boolean) 3 78 kc ks D E h [.ref a0, .int xp1] (fun A => va_Qi Q (XPost D A) A) := by
  refine xm_of (lv0 := [(0, .ref a0), (1, .int xp1)]) (by decide) (Nat.le_of_ble_eq_true rfl) rfl RX12 rfl (fun p e s m args below meth c A R hRm C hr hlk hnm => ?_)
  have hR : R.frames = 3 ∧ R.locals = 78 := by rw [hRm]; exact ⟨rfl, rfl⟩
  refine xr_aload_n (r := (some a0)) C dX12_takeWord_0 0 rfl ?_
  refine xr_ldc2 (v := 8) C dX12_takeWord_1 wd_755 ?_
  obtain ⟨⟨fs1, e1⟩, hm⟩ := hm
  refine xr_cVv (n := 1) (As := [.long 8]) (st := []) C (c_X12_begin a0 8 h 0 0 hm) e1 rfl wd_751 wd_753 wd_754 wd_712 wd_752 (by decide +kernel) rfl (by rw [hR.1, hR.2]; decide) (Nat.zero_add _).symm (Nat.zero_add _).symm rfl (Nat.le_of_ble_eq_true rfl) dX12_takeWord_4 (fun h3 hn => ?_)
  clear hm
  have hm := hn
  clear hn
  refine xr_aload_n (r := (some a0)) C dX12_takeWord_7 0 rfl ?_
  refine xr_aload_n (r := (some a0)) C dX12_takeWord_8 0 rfl ?_
  obtain ⟨fs4, r5, e4, f4, hm⟩ := hm
  refine xr_get (ci := 13) C 17 e4 f4 rfl inX12 (by decide) wd_667 dX12_takeWord_9 ?_
  refine xr_iconst (v := 1) C dX12_takeWord_12 rfl ?_
  obtain ⟨a7, rfl, hm⟩ := hm
  obtain ⟨N6, f6, y8, e6, b6, v6, hm⟩ := hm
  refine xr_lald C 1 rfl e6 b6 v6 dX12_takeWord_13 ?_
  obtain ⟨⟨fs9, e9⟩, hm⟩ := hm
  refine xr_cVv (n := 1) (As := [.long y8]) (st := []) C (c_X12_more a0 y8 h3 0 0 hm) e9 rfl wd_747 wd_749 wd_750 wd_712 wd_748 (by decide +kernel) rfl (by rw [hR.1, hR.2]; decide) (Nat.zero_add _).symm (Nat.zero_add _).symm rfl (Nat.le_of_ble_eq_true rfl) dX12_takeWord_14 (fun h11 hn => ?_)
  clear hm
  have hm := hn
  clear hn
  refine xr_aload_n (r := (some a0)) C dX12_takeWord_17 0 rfl ?_
  refine xr_aload_n (r := (some a0)) C dX12_takeWord_18 0 rfl ?_
  obtain ⟨fs12, r13, e12, f12, hm⟩ := hm
  refine xr_get (ci := 13) C 17 e12 f12 rfl inX12 (by decide) wd_667 dX12_takeWord_19 ?_
  refine xr_iconst (v := 2) C dX12_takeWord_22 rfl ?_
  obtain ⟨a15, rfl, hm⟩ := hm
  obtain ⟨N14, f14, y16, e14, b14, v14, hm⟩ := hm
  refine xr_lald C 1 rfl e14 b14 v14 dX12_takeWord_23 ?_
  obtain ⟨⟨fs17, e17⟩, hm⟩ := hm
  refine xr_cVv (n := 1) (As := [.long y16]) (st := []) C (c_X12_more a0 y16 h11 0 0 hm) e17 rfl wd_747 wd_749 wd_750 wd_712 wd_748 (by decide +kernel) rfl (by rw [hR.1, hR.2]; decide) (Nat.zero_add _).symm (Nat.zero_add _).symm rfl (Nat.le_of_ble_eq_true rfl) dX12_takeWord_24 (fun h19 hn => ?_)
  clear hm
  have hm := hn
  clear hn
  refine xr_aload_n (r := (some a0)) C dX12_takeWord_27 0 rfl ?_
  refine xr_aload_n (r := (some a0)) C dX12_takeWord_28 0 rfl ?_
  obtain ⟨fs20, r21, e20, f20, hm⟩ := hm
  refine xr_get (ci := 13) C 17 e20 f20 rfl inX12 (by decide) wd_667 dX12_takeWord_29 ?_
  refine xr_bipush (v := 10) C dX12_takeWord_32 rfl ?_
  obtain ⟨a23, rfl, hm⟩ := hm
  obtain ⟨N22, f22, y24, e22, b22, v22, hm⟩ := hm
  refine xr_lald C 1 rfl e22 b22 v22 dX12_takeWord_34 ?_
  obtain ⟨⟨fs25, e25⟩, hm⟩ := hm
  refine xr_cVv (n := 1) (As := [.long y24]) (st := []) C (c_X12_more a0 y24 h19 0 0 hm) e25 rfl wd_747 wd_749 wd_750 wd_712 wd_748 (by decide +kernel) rfl (by rw [hR.1, hR.2]; decide) (Nat.zero_add _).symm (Nat.zero_add _).symm rfl (Nat.le_of_ble_eq_true rfl) dX12_takeWord_35 (fun h27 hn => ?_)
  clear hm
  have hm := hn
  clear hn
  refine xr_aload_n (r := (some a0)) C dX12_takeWord_38 0 rfl ?_
  refine xr_aload_n (r := (some a0)) C dX12_takeWord_39 0 rfl ?_
  obtain ⟨fs28, r29, e28, f28, hm⟩ := hm
  refine xr_get (ci := 13) C 44 e28 f28 rfl inX12 (by decide) wd_691 dX12_takeWord_40 ?_
  refine xr_iload_n C dX12_takeWord_43 1 rfl ?_
  obtain ⟨a31, rfl, hm⟩ := hm
  obtain ⟨N30, f30, y32, e30, b30, v30, hm⟩ := hm
  refine xr_lald C 1 rfl e30 b30 v30 dX12_takeWord_44 ?_
  obtain ⟨⟨fs33, e33⟩, hm⟩ := hm
  refine xr_cVv (n := 1) (As := [.long y32]) (st := []) C (c_X12_more a0 y32 h27 0 0 hm) e33 rfl wd_747 wd_749 wd_750 wd_712 wd_748 (by decide +kernel) rfl (by rw [hR.1, hR.2]; decide) (Nat.zero_add _).symm (Nat.zero_add _).symm rfl (Nat.le_of_ble_eq_true rfl) dX12_takeWord_45 (fun h35 hn => ?_)
  clear hm
  have hm := hn
  clear hn
  refine xr_aload_n (r := (some a0)) C dX12_takeWord_48 0 rfl ?_
  obtain ⟨fs36, r37, e36, f36, hm⟩ := hm
  refine xr_get (ci := 13) C 17 e36 f36 rfl inX12 (by decide) wd_667 dX12_takeWord_49 ?_
  refine xr_iconst (v := 1) C dX12_takeWord_52 rfl ?_
  obtain ⟨a39, rfl, hm⟩ := hm
  obtain ⟨N38, f38, y40, e38, b38, v38, hm⟩ := hm
  refine xr_lald C 1 rfl e38 b38 v38 dX12_takeWord_53 ?_
  refine xr_aload_n (r := (some a0)) C dX12_takeWord_54 0 rfl ?_
  obtain ⟨fs41, r42, e41, f41, hm⟩ := hm
  refine xr_get (ci := 13) C 47 e41 f41 rfl inX12 (by decide) wd_694 dX12_takeWord_55 ?_
  refine xr_iload_n C dX12_takeWord_58 1 rfl ?_
  obtain ⟨a44, rfl, hm⟩ := hm
  obtain ⟨N43, f43, x45, e43, b43, v43, hm⟩ := hm
  refine xr_iald C 0 rfl e43 b43 v43 dX12_takeWord_59 ?_
  refine xr_i2l (v := x45.toInt64) C dX12_takeWord_60 rfl ?_
  refine xr_lcmp C dX12_takeWord_61 ?_
  refine xr_if_ne (tgt := 99) C dX12_takeWord_62 (by decide) (fun q46 => ?_) (fun q46 => ?_)
  · replace hm := hm.2 q46
    refine xr_iconst (v := 0) C dX12_takeWord_99 rfl ?_
    exact xr_zreturn C hr hlk (Or.inl rfl) hm dX12_takeWord_100
  · replace hm := hm.1 q46
    refine xr_aload_n (r := (some a0)) C dX12_takeWord_65 0 rfl ?_
    obtain ⟨fs47, r48, e47, f47, hm⟩ := hm
    refine xr_get (ci := 13) C 17 e47 f47 rfl inX12 (by decide) wd_667 dX12_takeWord_66 ?_
    refine xr_iconst (v := 2) C dX12_takeWord_69 rfl ?_
    obtain ⟨a50, rfl, hm⟩ := hm
    obtain ⟨N49, f49, y51, e49, b49, v49, hm⟩ := hm
    refine xr_lald C 1 rfl e49 b49 v49 dX12_takeWord_70 ?_
    refine xr_aload_n (r := (some a0)) C dX12_takeWord_71 0 rfl ?_
    obtain ⟨fs52, r53, e52, f52, hm⟩ := hm
    refine xr_get (ci := 13) C 50 e52 f52 rfl inX12 (by decide) wd_697 dX12_takeWord_72 ?_
    refine xr_iload_n C dX12_takeWord_75 1 rfl ?_
    obtain ⟨a55, rfl, hm⟩ := hm
    obtain ⟨N54, f54, x56, e54, b54, v54, hm⟩ := hm
    refine xr_iald C 0 rfl e54 b54 v54 dX12_takeWord_76 ?_
    refine xr_i2l (v := x56.toInt64) C dX12_takeWord_77 rfl ?_
    refine xr_lcmp C dX12_takeWord_78 ?_
    refine xr_if_ne (tgt := 99) C dX12_takeWord_79 (by decide) (fun q57 => ?_) (fun q57 => ?_)
    · replace hm := hm.2 q57
      refine xr_iconst (v := 0) C dX12_takeWord_99 rfl ?_
      exact xr_zreturn C hr hlk (Or.inl rfl) hm dX12_takeWord_100
    · replace hm := hm.1 q57
      refine xr_aload_n (r := (some a0)) C dX12_takeWord_82 0 rfl ?_
      refine xr_iconst (v := 1) C dX12_takeWord_83 rfl ?_
      refine xr_iload_n C dX12_takeWord_84 1 rfl ?_
      refine xr_i2l (v := xp1.toInt64) C dX12_takeWord_85 rfl ?_
      refine xr_aload_n (r := (some a0)) C dX12_takeWord_86 0 rfl ?_
      obtain ⟨fs58, r59, e58, f58, hm⟩ := hm
      refine xr_get (ci := 13) C 17 e58 f58 rfl inX12 (by decide) wd_667 dX12_takeWord_87 ?_
      refine xr_bipush (v := 11) C dX12_takeWord_90 rfl ?_
      obtain ⟨a61, rfl, hm⟩ := hm
      obtain ⟨N60, f60, y62, e60, b60, v60, hm⟩ := hm
      refine xr_lald C 1 rfl e60 b60 v60 dX12_takeWord_92 ?_
      obtain ⟨⟨fs63, e63⟩, hm⟩ := hm
      refine xr_cVi (n := 3) (As := [.int 1, .long xp1.toInt64, .long y62]) (st := []) C (c_X12_isGood a0 1 xp1.toInt64 y62 h35 0 0 hm) e63 rfl wd_756 wd_758 wd_759 wd_712 wd_757 (by decide +kernel) rfl (by rw [hR.1, hR.2]; decide) (Nat.zero_add _).symm (Nat.zero_add _).symm rfl (Nat.le_of_ble_eq_true rfl) dX12_takeWord_93 (fun x64 h65 hn => ?_)
      clear hm
      have hm := hn
      clear hn
      refine xr_if_ne (tgt := 101) C dX12_takeWord_96 (by decide) (fun q66 => ?_) (fun q66 => ?_)
      · replace hm := hm.2 q66
        refine xr_aload_n (r := (some a0)) C dX12_takeWord_101 0 rfl ?_
        obtain ⟨fs67, r68, e67, f67, hm⟩ := hm
        refine xr_get (ci := 13) C 51 e67 f67 rfl inX12 (by decide) wd_698 dX12_takeWord_102 ?_
        refine xr_iload_n C dX12_takeWord_105 1 rfl ?_
        refine xr_aload_n (r := (some a0)) C dX12_takeWord_106 0 rfl ?_
        obtain ⟨fs69, r70, e69, f69, hm⟩ := hm
        refine xr_get (ci := 13) C 17 e69 f69 rfl inX12 (by decide) wd_667 dX12_takeWord_107 ?_
        refine xr_bipush (v := 10) C dX12_takeWord_110 rfl ?_
        obtain ⟨a72, rfl, hm⟩ := hm
        obtain ⟨N71, f71, y73, e71, b71, v71, hm⟩ := hm
        refine xr_lald C 1 rfl e71 b71 v71 dX12_takeWord_112 ?_
        refine xr_l2i (v := y73.toInt32) C dX12_takeWord_113 rfl ?_
        obtain ⟨a75, rfl, hm⟩ := hm
        obtain ⟨N74, f74, e74, b74, h76, v74, hm⟩ := hm
        refine xr_iast C 0 rfl e74 b74 v74 dX12_takeWord_114 ?_
        refine xr_aload_n (r := (some a0)) C dX12_takeWord_115 0 rfl ?_
        obtain ⟨fs77, r78, e77, f77, hm⟩ := hm
        refine xr_get (ci := 13) C 18 e77 f77 rfl inX12 (by decide) wd_668 dX12_takeWord_116 ?_
        refine xr_bipush (v := 8) C dX12_takeWord_119 rfl ?_
        refine xr_aload_n (r := (some a0)) C dX12_takeWord_121 0 rfl ?_
        obtain ⟨fs79, r80, e79, f79, hm⟩ := hm
        refine xr_get (ci := 13) C 17 e79 f79 rfl inX12 (by decide) wd_667 dX12_takeWord_122 ?_
        refine xr_bipush (v := 8) C dX12_takeWord_125 rfl ?_
        obtain ⟨a82, rfl, hm⟩ := hm
        obtain ⟨N81, f81, y83, e81, b81, v81, hm⟩ := hm
        refine xr_lald C 1 rfl e81 b81 v81 dX12_takeWord_127 ?_
        obtain ⟨a85, rfl, hm⟩ := hm
        obtain ⟨N84, f84, e84, b84, h86, v84, hm⟩ := hm
        refine xr_last C 1 rfl e84 b84 v84 dX12_takeWord_128 ?_
        refine xr_aload_n (r := (some a0)) C dX12_takeWord_129 0 rfl ?_
        obtain ⟨fs87, r88, e87, f87, hm⟩ := hm
        refine xr_get (ci := 13) C 18 e87 f87 rfl inX12 (by decide) wd_668 dX12_takeWord_130 ?_
        refine xr_bipush (v := 10) C dX12_takeWord_133 rfl ?_
        refine xr_aload_n (r := (some a0)) C dX12_takeWord_135 0 rfl ?_
        obtain ⟨fs89, r90, e89, f89, hm⟩ := hm
        refine xr_get (ci := 13) C 17 e89 f89 rfl inX12 (by decide) wd_667 dX12_takeWord_136 ?_
        refine xr_bipush (v := 10) C dX12_takeWord_139 rfl ?_
        obtain ⟨a92, rfl, hm⟩ := hm
        obtain ⟨N91, f91, y93, e91, b91, v91, hm⟩ := hm
        refine xr_lald C 1 rfl e91 b91 v91 dX12_takeWord_141 ?_
        obtain ⟨a95, rfl, hm⟩ := hm
        obtain ⟨N94, f94, e94, b94, h96, v94, hm⟩ := hm
        refine xr_last C 1 rfl e94 b94 v94 dX12_takeWord_142 ?_
        refine xr_aload_n (r := (some a0)) C dX12_takeWord_143 0 rfl ?_
        refine xr_iload_n C dX12_takeWord_144 1 rfl ?_
        refine xr_bipush (v := 9) C dX12_takeWord_145 rfl ?_
        refine xr_bipush (v := 10) C dX12_takeWord_147 rfl ?_
        obtain ⟨⟨fs97, e97⟩, hm⟩ := hm
        refine xr_cVv (n := 3) (As := [.int xp1, .int 9, .int 10]) (st := []) C (c_X12_toItsCard a0 xp1 9 10 h96 0 0 hm) e97 rfl wd_775 wd_777 wd_778 wd_712 wd_776 (by decide +kernel) rfl (by rw [hR.1, hR.2]; decide) (Nat.zero_add _).symm (Nat.zero_add _).symm rfl (Nat.le_of_ble_eq_true rfl) dX12_takeWord_149 (fun h99 hn => ?_)
        clear hm
        have hm := hn
        clear hn
        refine xr_iconst (v := 1) C dX12_takeWord_152 rfl ?_
        exact xr_zreturn C hr hlk (Or.inr rfl) hm dX12_takeWord_153
      · replace hm := hm.1 q66
        refine xr_iconst (v := 0) C dX12_takeWord_99 rfl ?_
        exact xr_zreturn C hr hlk (Or.inl rfl) hm dX12_takeWord_100
set_option maxRecDepth 100000 in
set_option maxHeartbeats 4000000 in
theorem k_X12_toTerminal_L225 {p : Program} {l : Launch} {e : Env} {R : Room} {s : State} {m : MethodId} {args : Array Value} {below : List Frame} {meth : Method} {c : Code} {D : va_G} {E : Ev} {A : Nat → Prop} {KC KS : Nat} (C : XC p R s m args c D E A 4 RX12 cX12_toTerminal KC KS) (hr : meth.sig.returnType = (some .boolean)) (hlk : meth.locks = false) (hnm : meth.name = "toTerminal") (hR : R.frames = 5 ∧ R.locals = 120) {Q : Int32 → Hp → Prop} : ∀ (s0 : Int32) (s1 : Int32) (s2 : Option Nat) (h : Hp) (kc ks : Nat), m_X12_toTerminal_L225 E s0 s1 s2 h kc ks Q → XW p l e R s m args below meth c (MQ below (va_Qi Q (XPost D A) A) args s KC KS A) D A KC KS 4 h kc ks [] 225 [.int s0, .int s1, va_rf s2] := by
  intro s0 s1 s2 h kc ks hm
  obtain ⟨a96, rfl, hm⟩ := hm
  obtain ⟨⟨fs93, e93⟩, hm⟩ := hm
  refine xr_cVv (n := 2) (As := [.int s1, .int s0]) (st := []) C (c_X12_end a96 s1 s0 h 0 0 hm) e93 rfl wd_784 wd_786 wd_787 wd_712 wd_785 (by decide +kernel) rfl (by rw [hR.1, hR.2]; decide) (Nat.zero_add _).symm (Nat.zero_add _).symm rfl (Nat.le_of_ble_eq_true rfl) dX12_toTerminal_225 (fun h95 hn => ?_)
  clear hm
  have hm := hn
  clear hn
  refine xr_iconst (v := 1) C dX12_toTerminal_228 rfl ?_
  exact xr_zreturn C hr hlk (Or.inr rfl) hm dX12_toTerminal_229
set_option maxRecDepth 100000 in
set_option maxHeartbeats 4000000 in
theorem k_X12_toTerminal_L213 {p : Program} {l : Launch} {e : Env} {R : Room} {s : State} {m : MethodId} {args : Array Value} {below : List Frame} {meth : Method} {c : Code} {D : va_G} {E : Ev} {A : Nat → Prop} {KC KS : Nat} (C : XC p R s m args c D E A 4 RX12 cX12_toTerminal KC KS) (hr : meth.sig.returnType = (some .boolean)) (hlk : meth.locks = false) (hnm : meth.name = "toTerminal") (hR : R.frames = 5 ∧ R.locals = 120) {Q : Int32 → Hp → Prop} : ∀ (a0 : Nat) (xv1 : Int32) (s0 : Int32) (h : Hp) (kc ks : Nat), m_X12_toTerminal_L213 E a0 xv1 s0 h kc ks Q → XW p l e R s m args below meth c (MQ below (va_Qi Q (XPost D A) A) args s KC KS A) D A KC KS 4 h kc ks [(0, .ref a0), (1, .int xv1)] 213 [.int s0] := by
  intro a0 xv1 s0 h kc ks hm
  refine xr_istore_n (lv' := [(3, .int s0), (0, .ref a0), (1, .int xv1)]) C dX12_toTerminal_213 (by decide) rfl ?_
  refine xr_aload_n (r := (some a0)) C dX12_toTerminal_214 1 rfl ?_
  refine xr_iload_n C dX12_toTerminal_215 2 rfl ?_
  refine xr_iload_n C dX12_toTerminal_216 0 rfl ?_
  refine xr_if_eq (tgt := 224) C dX12_toTerminal_217 (by decide) (fun q92 => ?_) (fun q92 => ?_)
  · replace hm := hm.1 q92
    refine xr_iconst (v := 3) C dX12_toTerminal_224 rfl ?_
    refine xr_sub [] rfl ?_
    exact k_X12_toTerminal_L225 C hr hlk hnm hR 3 xv1 (some a0) _ _ _ hm
  · replace hm := hm.2 q92
    refine xr_iconst (v := 1) C dX12_toTerminal_220 rfl ?_
    refine xr_goto (tgt := 225) C dX12_toTerminal_221 (by decide) ?_
    refine xr_sub [] rfl ?_
    exact k_X12_toTerminal_L225 C hr hlk hnm hR 1 xv1 (some a0) _ _ _ hm
set_option maxRecDepth 100000 in
set_option maxHeartbeats 4000000 in
theorem k_X12_toTerminal_L212 {p : Program} {l : Launch} {e : Env} {R : Room} {s : State} {m : MethodId} {args : Array Value} {below : List Frame} {meth : Method} {c : Code} {D : va_G} {E : Ev} {A : Nat → Prop} {KC KS : Nat} (C : XC p R s m args c D E A 4 RX12 cX12_toTerminal KC KS) (hr : meth.sig.returnType = (some .boolean)) (hlk : meth.locks = false) (hnm : meth.name = "toTerminal") (hR : R.frames = 5 ∧ R.locals = 120) {Q : Int32 → Hp → Prop} : ∀ (a0 : Nat) (xv1 : Int32) (h : Hp) (kc ks : Nat), m_X12_toTerminal_L212 E a0 xv1 h kc ks Q → XW p l e R s m args below meth c (MQ below (va_Qi Q (XPost D A) A) args s KC KS A) D A KC KS 4 h kc ks [(0, .ref a0), (1, .int xv1)] 212 [] := by
  intro a0 xv1 h kc ks hm
  refine xr_iconst (v := 0) C dX12_toTerminal_212 rfl ?_
  exact k_X12_toTerminal_L213 C hr hlk hnm hR a0 xv1 0 _ _ _ hm
set_option maxRecDepth 100000 in
set_option maxHeartbeats 4000000 in
theorem k_X12_toTerminal_L111 {p : Program} {l : Launch} {e : Env} {R : Room} {s : State} {m : MethodId} {args : Array Value} {below : List Frame} {meth : Method} {c : Code} {D : va_G} {E : Ev} {A : Nat → Prop} {KC KS : Nat} (C : XC p R s m args c D E A 4 RX12 cX12_toTerminal KC KS) (hr : meth.sig.returnType = (some .boolean)) (hlk : meth.locks = false) (hnm : meth.name = "toTerminal") (hR : R.frames = 5 ∧ R.locals = 120) {Q : Int32 → Hp → Prop} : ∀ (a0 : Nat) (xv1 : Int32) (h : Hp) (kc ks : Nat), m_X12_toTerminal_L111 E a0 xv1 h kc ks Q → XW p l e R s m args below meth c (MQ below (va_Qi Q (XPost D A) A) args s KC KS A) D A KC KS 4 h kc ks [(0, .ref a0), (1, .int xv1)] 111 [] := by
  intro a0 xv1 h kc ks hm
  refine xr_aload_n (r := (some a0)) C dX12_toTerminal_111 0 rfl ?_
  refine xr_ldc2 (v := 10) C dX12_toTerminal_112 wd_760 ?_
  obtain ⟨⟨fs33, e33⟩, hm⟩ := hm
  refine xr_cVv (n := 1) (As := [.long 10]) (st := []) C (c_X12_begin a0 10 h 0 0 hm) e33 rfl wd_751 wd_753 wd_754 wd_712 wd_752 (by decide +kernel) rfl (by rw [hR.1, hR.2]; decide) (Nat.zero_add _).symm (Nat.zero_add _).symm rfl (Nat.le_of_ble_eq_true rfl) dX12_toTerminal_115 (fun h35 hn => ?_)
  clear hm
  have hm := hn
  clear hn
  refine xr_aload_n (r := (some a0)) C dX12_toTerminal_118 0 rfl ?_
  refine xr_ldc2 (v := 2) C dX12_toTerminal_119 wd_736 ?_
  obtain ⟨⟨fs36, e36⟩, hm⟩ := hm
  refine xr_cVv (n := 1) (As := [.long 2]) (st := []) C (c_X12_more a0 2 h35 0 0 hm) e36 rfl wd_747 wd_749 wd_750 wd_712 wd_748 (by decide +kernel) rfl (by rw [hR.1, hR.2]; decide) (Nat.zero_add _).symm (Nat.zero_add _).symm rfl (Nat.le_of_ble_eq_true rfl) dX12_toTerminal_122 (fun h38 hn => ?_)
  clear hm
  have hm := hn
  clear hn
  refine xr_aload_n (r := (some a0)) C dX12_toTerminal_125 0 rfl ?_
  refine xr_aload_n (r := (some a0)) C dX12_toTerminal_126 0 rfl ?_
  obtain ⟨fs39, r40, e39, f39, hm⟩ := hm
  refine xr_get (ci := 13) C 44 e39 f39 rfl inX12 (by decide) wd_691 dX12_toTerminal_127 ?_
  refine xr_iload_n C dX12_toTerminal_130 1 rfl ?_
  obtain ⟨a42, rfl, hm⟩ := hm
  obtain ⟨N41, f41, y43, e41, b41, v41, hm⟩ := hm
  refine xr_lald C 1 rfl e41 b41 v41 dX12_toTerminal_131 ?_
  obtain ⟨⟨fs44, e44⟩, hm⟩ := hm
  refine xr_cVv (n := 1) (As := [.long y43]) (st := []) C (c_X12_more a0 y43 h38 0 0 hm) e44 rfl wd_747 wd_749 wd_750 wd_712 wd_748 (by decide +kernel) rfl (by rw [hR.1, hR.2]; decide) (Nat.zero_add _).symm (Nat.zero_add _).symm rfl (Nat.le_of_ble_eq_true rfl) dX12_toTerminal_132 (fun h46 hn => ?_)
  clear hm
  have hm := hn
  clear hn
  refine xr_aload_n (r := (some a0)) C dX12_toTerminal_135 0 rfl ?_
  refine xr_aload_n (r := (some a0)) C dX12_toTerminal_136 0 rfl ?_
  obtain ⟨fs47, r48, e47, f47, hm⟩ := hm
  refine xr_get (ci := 13) C 45 e47 f47 rfl inX12 (by decide) wd_692 dX12_toTerminal_137 ?_
  refine xr_iload_n C dX12_toTerminal_140 1 rfl ?_
  obtain ⟨a50, rfl, hm⟩ := hm
  obtain ⟨N49, f49, y51, e49, b49, v49, hm⟩ := hm
  refine xr_lald C 1 rfl e49 b49 v49 dX12_toTerminal_141 ?_
  obtain ⟨⟨fs52, e52⟩, hm⟩ := hm
  refine xr_cVv (n := 1) (As := [.long y51]) (st := []) C (c_X12_more a0 y51 h46 0 0 hm) e52 rfl wd_747 wd_749 wd_750 wd_712 wd_748 (by decide +kernel) rfl (by rw [hR.1, hR.2]; decide) (Nat.zero_add _).symm (Nat.zero_add _).symm rfl (Nat.le_of_ble_eq_true rfl) dX12_toTerminal_142 (fun h54 hn => ?_)
  clear hm
  have hm := hn
  clear hn
  refine xr_aload_n (r := (some a0)) C dX12_toTerminal_145 0 rfl ?_
  refine xr_iload_n C dX12_toTerminal_146 1 rfl ?_
  refine xr_i2l (v := xv1.toInt64) C dX12_toTerminal_147 rfl ?_
  obtain ⟨⟨fs55, e55⟩, hm⟩ := hm
  refine xr_cVv (n := 1) (As := [.long xv1.toInt64]) (st := []) C (c_X12_more a0 xv1.toInt64 h54 0 0 hm) e55 rfl wd_747 wd_749 wd_750 wd_712 wd_748 (by decide +kernel) rfl (by rw [hR.1, hR.2]; decide) (Nat.zero_add _).symm (Nat.zero_add _).symm rfl (Nat.le_of_ble_eq_true rfl) dX12_toTerminal_148 (fun h57 hn => ?_)
  clear hm
  have hm := hn
  clear hn
  refine xr_aload_n (r := (some a0)) C dX12_toTerminal_151 0 rfl ?_
  refine xr_aload_n (r := (some a0)) C dX12_toTerminal_152 0 rfl ?_
  obtain ⟨fs58, r59, e58, f58, hm⟩ := hm
  refine xr_get (ci := 13) C 50 e58 f58 rfl inX12 (by decide) wd_697 dX12_toTerminal_153 ?_
  refine xr_iload_n C dX12_toTerminal_156 1 rfl ?_
  obtain ⟨a61, rfl, hm⟩ := hm
  obtain ⟨N60, f60, x62, e60, b60, v60, hm⟩ := hm
  refine xr_iald C 0 rfl e60 b60 v60 dX12_toTerminal_157 ?_
  refine xr_i2l (v := x62.toInt64) C dX12_toTerminal_158 rfl ?_
  obtain ⟨⟨fs63, e63⟩, hm⟩ := hm
  refine xr_cVv (n := 1) (As := [.long x62.toInt64]) (st := []) C (c_X12_more a0 x62.toInt64 h57 0 0 hm) e63 rfl wd_747 wd_749 wd_750 wd_712 wd_748 (by decide +kernel) rfl (by rw [hR.1, hR.2]; decide) (Nat.zero_add _).symm (Nat.zero_add _).symm rfl (Nat.le_of_ble_eq_true rfl) dX12_toTerminal_159 (fun h65 hn => ?_)
  clear hm
  have hm := hn
  clear hn
  refine xr_aload_n (r := (some a0)) C dX12_toTerminal_162 0 rfl ?_
  obtain ⟨fs66, r67, e66, f66, hm⟩ := hm
  refine xr_get (ci := 13) C 51 e66 f66 rfl inX12 (by decide) wd_698 dX12_toTerminal_163 ?_
  refine xr_iload_n C dX12_toTerminal_166 1 rfl ?_
  obtain ⟨a69, rfl, hm⟩ := hm
  obtain ⟨N68, f68, x70, e68, b68, v68, hm⟩ := hm
  refine xr_iald C 0 rfl e68 b68 v68 dX12_toTerminal_167 ?_
  refine xr_iconst (v := 1) C dX12_toTerminal_168 rfl ?_
  refine xr_icmp_ne (tgt := 212) C dX12_toTerminal_169 (by decide) (fun q71 => ?_) (fun q71 => ?_)
  · replace hm := hm.2 q71
    exact k_X12_toTerminal_L212 C hr hlk hnm hR a0 xv1 _ _ _ hm
  · replace hm := hm.1 q71
    refine xr_aload_n (r := (some a0)) C dX12_toTerminal_172 0 rfl ?_
    obtain ⟨fs72, r73, e72, f72, hm⟩ := hm
    refine xr_get (ci := 13) C 17 e72 f72 rfl inX12 (by decide) wd_667 dX12_toTerminal_173 ?_
    refine xr_bipush (v := 7) C dX12_toTerminal_176 rfl ?_
    obtain ⟨a75, rfl, hm⟩ := hm
    obtain ⟨N74, f74, y76, e74, b74, v74, hm⟩ := hm
    refine xr_lald C 1 rfl e74 b74 v74 dX12_toTerminal_178 ?_
    refine xr_ldc2 (v := 2) C dX12_toTerminal_179 wd_736 ?_
    refine xr_lcmp C dX12_toTerminal_182 ?_
    refine xr_if_ne (tgt := 212) C dX12_toTerminal_183 (by decide) (fun q77 => ?_) (fun q77 => ?_)
    · replace hm := hm.2 q77
      exact k_X12_toTerminal_L212 C hr hlk hnm hR a0 xv1 _ _ _ hm
    · replace hm := hm.1 q77
      refine xr_aload_n (r := (some a0)) C dX12_toTerminal_186 0 rfl ?_
      refine xr_iconst (v := 0) C dX12_toTerminal_187 rfl ?_
      refine xr_aload_n (r := (some a0)) C dX12_toTerminal_188 0 rfl ?_
      obtain ⟨fs78, r79, e78, f78, hm⟩ := hm
      refine xr_get (ci := 13) C 47 e78 f78 rfl inX12 (by decide) wd_694 dX12_toTerminal_189 ?_
      refine xr_iload_n C dX12_toTerminal_192 1 rfl ?_
      obtain ⟨a81, rfl, hm⟩ := hm
      obtain ⟨N80, f80, x82, e80, b80, v80, hm⟩ := hm
      refine xr_iald C 0 rfl e80 b80 v80 dX12_toTerminal_193 ?_
      refine xr_i2l (v := x82.toInt64) C dX12_toTerminal_194 rfl ?_
      refine xr_aload_n (r := (some a0)) C dX12_toTerminal_195 0 rfl ?_
      obtain ⟨fs83, r84, e83, f83, hm⟩ := hm
      refine xr_get (ci := 13) C 17 e83 f83 rfl inX12 (by decide) wd_667 dX12_toTerminal_196 ?_
      refine xr_bipush (v := 8) C dX12_toTerminal_199 rfl ?_
      obtain ⟨a86, rfl, hm⟩ := hm
      obtain ⟨N85, f85, y87, e85, b85, v85, hm⟩ := hm
      refine xr_lald C 1 rfl e85 b85 v85 dX12_toTerminal_201 ?_
      obtain ⟨⟨fs88, e88⟩, hm⟩ := hm
      refine xr_cVi (n := 3) (As := [.int 0, .long x82.toInt64, .long y87]) (st := []) C (c_X12_isGood a0 0 x82.toInt64 y87 h65 0 0 hm) e88 rfl wd_756 wd_758 wd_759 wd_712 wd_757 (by decide +kernel) rfl (by rw [hR.1, hR.2]; decide) (Nat.zero_add _).symm (Nat.zero_add _).symm rfl (Nat.le_of_ble_eq_true rfl) dX12_toTerminal_202 (fun x89 h90 hn => ?_)
      clear hm
      have hm := hn
      clear hn
      refine xr_if_eq (tgt := 212) C dX12_toTerminal_205 (by decide) (fun q91 => ?_) (fun q91 => ?_)
      · replace hm := hm.1 q91
        exact k_X12_toTerminal_L212 C hr hlk hnm hR a0 xv1 _ _ _ hm
      · replace hm := hm.2 q91
        refine xr_iconst (v := 1) C dX12_toTerminal_208 rfl ?_
        refine xr_goto (tgt := 213) C dX12_toTerminal_209 (by decide) ?_
        exact k_X12_toTerminal_L213 C hr hlk hnm hR a0 xv1 1 _ _ _ hm
set_option maxRecDepth 100000 in
set_option maxHeartbeats 4000000 in
theorem c_X12_toTerminal {l : Launch} {D : va_G} {E : Ev} (a0 : Nat) (xp1 : Int32) (xp2 : Int32) (h : Hp) (kc ks : Nat) {Q : Int32 → Hp → Prop} (hm : m_X12_toTerminal E a0 xp1 xp2 h kc ks Q) : XMet l yX12_toTerminal cX12_toTerminal 4 (some .boolean) 5 120 kc ks D E h [.ref a0, .int xp1, .int xp2] (fun A => va_Qi Q (XPost D A) A) := by
  refine xm_of (lv0 := [(0, .ref a0), (1, .int xp1), (2, .int xp2)]) (by decide) (Nat.le_of_ble_eq_true rfl) rfl RX12 rfl (fun p e s m args below meth c A R hRm C hr hlk hnm => ?_)
  have hR : R.frames = 5 ∧ R.locals = 120 := by rw [hRm]; exact ⟨rfl, rfl⟩
  refine xr_aload_n (r := (some a0)) C dX12_toTerminal_0 0 rfl ?_
  obtain ⟨fs1, r2, e1, f1, hm⟩ := hm
  refine xr_get (ci := 13) C 41 e1 f1 rfl inX12 (by decide) wd_688 dX12_toTerminal_1 ?_
  refine xr_iload_n C dX12_toTerminal_4 1 rfl ?_
  obtain ⟨a4, rfl, hm⟩ := hm
  obtain ⟨N3, f3, x5, e3, b3, v3, hm⟩ := hm
  refine xr_iald C 0 rfl e3 b3 v3 dX12_toTerminal_5 ?_
  refine xr_iload_n C dX12_toTerminal_6 2 rfl ?_
  refine xr_icmp_eq (tgt := 12) C dX12_toTerminal_7 (by decide) (fun q6 => ?_) (fun q6 => ?_)
  · replace hm := hm.1 q6
    refine xr_iload_n C dX12_toTerminal_12 2 rfl ?_
    by_cases q_0 : xp2 = 2
    · replace hm := hm.1 q_0
      refine xr_tableIn (tgt := 56) C dX12_toTerminal_13 (by rw [q_0]; decide) (by rw [q_0]; decide) (by rw [q_0] <;> rfl) (by decide) ?_
      refine xr_aload_n (r := (some a0)) C dX12_toTerminal_56 0 rfl ?_
      refine xr_iload_n C dX12_toTerminal_57 1 rfl ?_
      obtain ⟨⟨fs7, e7⟩, hm⟩ := hm
      refine xr_cVv (n := 1) (As := [.int xp1]) (st := []) C (c_X12_takeCard a0 xp1 h 0 0 hm) e7 rfl wd_797 wd_799 wd_800 wd_712 wd_798 (by decide +kernel) rfl (by rw [hR.1, hR.2]; decide) (Nat.zero_add _).symm (Nat.zero_add _).symm rfl (Nat.le_of_ble_eq_true rfl) dX12_toTerminal_58 (fun h9 hn => ?_)
      clear hm
      have hm := hn
      clear hn
      refine xr_iconst (v := 1) C dX12_toTerminal_61 rfl ?_
      exact xr_zreturn C hr hlk (Or.inr rfl) hm dX12_toTerminal_62
    · replace hm := hm.2 q_0
      by_cases q_1 : xp2 = 4
      · replace hm := hm.1 q_1
        refine xr_tableIn (tgt := 63) C dX12_toTerminal_13 (by rw [q_1]; decide) (by rw [q_1]; decide) (by rw [q_1] <;> rfl) (by decide) ?_
        refine xr_aload_n (r := (some a0)) C dX12_toTerminal_63 0 rfl ?_
        obtain ⟨fs10, r11, e10, f10, hm⟩ := hm
        refine xr_get (ci := 13) C 17 e10 f10 rfl inX12 (by decide) wd_667 dX12_toTerminal_64 ?_
        refine xr_bipush (v := 6) C dX12_toTerminal_67 rfl ?_
        obtain ⟨a13, rfl, hm⟩ := hm
        obtain ⟨N12, f12, y14, e12, b12, v12, hm⟩ := hm
        refine xr_lald C 1 rfl e12 b12 v12 dX12_toTerminal_69 ?_
        refine xr_lconst (v := 1) C dX12_toTerminal_70 rfl ?_
        refine xr_lcmp C dX12_toTerminal_71 ?_
        refine xr_if_ne (tgt := 90) C dX12_toTerminal_72 (by decide) (fun q15 => ?_) (fun q15 => ?_)
        · replace hm := hm.2 q15
          refine xr_aload_n (r := (some a0)) C dX12_toTerminal_90 0 rfl ?_
          refine xr_iload_n C dX12_toTerminal_91 1 rfl ?_
          refine xr_iconst (v := 3) C dX12_toTerminal_92 rfl ?_
          obtain ⟨⟨fs16, e16⟩, hm⟩ := hm
          refine xr_cVv (n := 2) (As := [.int xp1, .int 3]) (st := []) C (c_X12_end a0 xp1 3 h 0 0 hm) e16 rfl wd_784 wd_786 wd_787 wd_712 wd_785 (by decide +kernel) rfl (by rw [hR.1, hR.2]; decide) (Nat.zero_add _).symm (Nat.zero_add _).symm rfl (Nat.le_of_ble_eq_true rfl) dX12_toTerminal_93 (fun h18 hn => ?_)
          clear hm
          have hm := hn
          clear hn
          refine xr_iconst (v := 1) C dX12_toTerminal_96 rfl ?_
          exact xr_zreturn C hr hlk (Or.inr rfl) hm dX12_toTerminal_97
        · replace hm := hm.1 q15
          refine xr_aload_n (r := (some a0)) C dX12_toTerminal_75 0 rfl ?_
          obtain ⟨fs19, r20, e19, f19, hm⟩ := hm
          refine xr_get (ci := 13) C 49 e19 f19 rfl inX12 (by decide) wd_696 dX12_toTerminal_76 ?_
          refine xr_iload_n C dX12_toTerminal_79 1 rfl ?_
          refine xr_iconst (v := 1) C dX12_toTerminal_80 rfl ?_
          obtain ⟨a22, rfl, hm⟩ := hm
          obtain ⟨N21, f21, e21, b21, h23, v21, hm⟩ := hm
          refine xr_iast C 0 rfl e21 b21 v21 dX12_toTerminal_81 ?_
          refine xr_aload_n (r := (some a0)) C dX12_toTerminal_82 0 rfl ?_
          refine xr_iload_n C dX12_toTerminal_83 1 rfl ?_
          obtain ⟨⟨fs24, e24⟩, hm⟩ := hm
          refine xr_cVv (n := 1) (As := [.int xp1]) (st := []) C (c_X12_ask a0 xp1 h23 0 0 hm) e24 rfl wd_780 wd_782 wd_783 wd_712 wd_781 (by decide +kernel) rfl (by rw [hR.1, hR.2]; decide) (Nat.zero_add _).symm (Nat.zero_add _).symm rfl (Nat.le_of_ble_eq_true rfl) dX12_toTerminal_84 (fun h26 hn => ?_)
          clear hm
          have hm := hn
          clear hn
          refine xr_goto (tgt := 96) C dX12_toTerminal_87 (by decide) ?_
          refine xr_iconst (v := 1) C dX12_toTerminal_96 rfl ?_
          exact xr_zreturn C hr hlk (Or.inr rfl) hm dX12_toTerminal_97
      · replace hm := hm.2 q_1
        by_cases q_2 : xp2 = 6
        · replace hm := hm.1 q_2
          refine xr_tableIn (tgt := 98) C dX12_toTerminal_13 (by rw [q_2]; decide) (by rw [q_2]; decide) (by rw [q_2] <;> rfl) (by decide) ?_
          refine xr_aload_n (r := (some a0)) C dX12_toTerminal_98 0 rfl ?_
          refine xr_iload_n C dX12_toTerminal_99 1 rfl ?_
          obtain ⟨⟨fs27, e27⟩, hm⟩ := hm
          refine xr_cVv (n := 1) (As := [.int xp1]) (st := []) C (c_X12_takeAnswer a0 xp1 h 0 0 hm) e27 rfl wd_801 wd_803 wd_804 wd_712 wd_802 (by decide +kernel) rfl (by rw [hR.1, hR.2]; decide) (Nat.zero_add _).symm (Nat.zero_add _).symm rfl (Nat.le_of_ble_eq_true rfl) dX12_toTerminal_100 (fun h29 hn => ?_)
          clear hm
          have hm := hn
          clear hn
          refine xr_iconst (v := 1) C dX12_toTerminal_103 rfl ?_
          exact xr_zreturn C hr hlk (Or.inr rfl) hm dX12_toTerminal_104
        · replace hm := hm.2 q_2
          by_cases q_3 : xp2 = 8
          · replace hm := hm.1 q_3
            refine xr_tableIn (tgt := 105) C dX12_toTerminal_13 (by rw [q_3]; decide) (by rw [q_3]; decide) (by rw [q_3] <;> rfl) (by decide) ?_
            refine xr_aload_n (r := (some a0)) C dX12_toTerminal_105 0 rfl ?_
            refine xr_iload_n C dX12_toTerminal_106 1 rfl ?_
            obtain ⟨⟨fs30, e30⟩, hm⟩ := hm
            refine xr_cVi (n := 1) (As := [.int xp1]) (st := []) C (c_X12_takeWord a0 xp1 h 0 0 hm) e30 rfl wd_805 wd_807 wd_808 wd_712 wd_806 (by decide +kernel) rfl (by rw [hR.1, hR.2]; decide) (Nat.zero_add _).symm (Nat.zero_add _).symm rfl (Nat.le_of_ble_eq_true rfl) dX12_toTerminal_107 (fun x31 h32 hn => ?_)
            clear hm
            have hm := hn
            clear hn
            exact xr_zreturn C hr hlk hm.1 hm.2 dX12_toTerminal_110
          · replace hm := hm.2 q_3
            have z_0 := lv_neT (a := 2) q_0 rfl
            have z_1 := lv_neT (a := 4) q_1 rfl
            have z_2 := lv_neT (a := 6) q_2 rfl
            have z_3 := lv_neT (a := 8) q_3 rfl
            by_cases w_0 : xp2 = 3
            · refine xr_tableIn (tgt := 111) C dX12_toTerminal_13 (by rw [w_0]; decide) (by rw [w_0]; decide) (by rw [w_0] <;> rfl) (by decide) ?_
              refine xr_sub [0, 1] rfl ?_
              exact k_X12_toTerminal_L111 C hr hlk hnm hR a0 xp1 _ _ _ hm
            · have y_0 := lv_neT (a := 3) w_0 rfl
              by_cases w_1 : xp2 = 5
              · refine xr_tableIn (tgt := 111) C dX12_toTerminal_13 (by rw [w_1]; decide) (by rw [w_1]; decide) (by rw [w_1] <;> rfl) (by decide) ?_
                refine xr_sub [0, 1] rfl ?_
                exact k_X12_toTerminal_L111 C hr hlk hnm hR a0 xp1 _ _ _ hm
              · have y_1 := lv_neT (a := 5) w_1 rfl
                by_cases w_2 : xp2 = 7
                · refine xr_tableIn (tgt := 111) C dX12_toTerminal_13 (by rw [w_2]; decide) (by rw [w_2]; decide) (by rw [w_2] <;> rfl) (by decide) ?_
                  refine xr_sub [0, 1] rfl ?_
                  exact k_X12_toTerminal_L111 C hr hlk hnm hR a0 xp1 _ _ _ hm
                · have y_2 := lv_neT (a := 7) w_2 rfl
                  refine xr_tableOut (tgt := 111) C dX12_toTerminal_13 (by omega) (by decide) ?_
                  refine xr_sub [0, 1] rfl ?_
                  exact k_X12_toTerminal_L111 C hr hlk hnm hR a0 xp1 _ _ _ hm
  · replace hm := hm.2 q6
    refine xr_iconst (v := 0) C dX12_toTerminal_10 rfl ?_
    exact xr_zreturn C hr hlk (Or.inl rfl) hm dX12_toTerminal_11
set_option maxRecDepth 100000 in
set_option maxHeartbeats 4000000 in
theorem k_X12_isSigned_L30 {p : Program} {l : Launch} {e : Env} {R : Room} {s : State} {m : MethodId} {args : Array Value} {below : List Frame} {meth : Method} {c : Code} {D : va_G} {E : Ev} {A : Nat → Prop} {KC KS : Nat} (C : XC p R s m args c D E A 3 RX12 cX12_isSigned KC KS) (hr : meth.sig.returnType = (some .boolean)) (hlk : meth.locks = false) (hnm : meth.name = "isSigned") (hR : R.frames = 2 ∧ R.locals = 52) {K8 : Nat → Int32 → Hp → Nat → Nat → Prop} {Q : Int32 → Hp → Prop} (hK8 : ∀ (a0 : Nat) (xv2 : Int32) (h : Hp) (kc ks : Nat), K8 a0 xv2 h kc ks → XW p l e R s m args below meth c (MQ below (va_Qi Q (XPost D A) A) args s KC KS A) D A KC KS 3 h kc ks [(0, .ref a0), (2, .int xv2)] 8 []) : ∀ (a0 : Nat) (xv2 : Int32) (h : Hp) (kc ks : Nat), m_X12_isSigned_L30 E a0 xv2 h kc ks K8 Q → XW p l e R s m args below meth c (MQ below (va_Qi Q (XPost D A) A) args s KC KS A) D A KC KS 3 h kc ks [(0, .ref a0), (2, .int xv2)] 30 [] := by
  intro a0 xv2 h kc ks hm
  refine xr_iinc (j := 1) (v := xv2 + 1) (lv' := [(2, .int (xv2 + 1)), (0, .ref a0)]) C dX12_isSigned_30 rfl rfl (by decide) rfl ?_
  refine xr_goto (tgt := 8) C dX12_isSigned_33 (by decide) ?_
  refine xr_sub [1, 0] rfl ?_
  exact hK8 a0 (xv2 + 1) _ _ _ hm
set_option maxRecDepth 100000 in
set_option maxHeartbeats 4000000 in
theorem k_X12_isSigned_L8 {p : Program} {l : Launch} {e : Env} {R : Room} {s : State} {m : MethodId} {args : Array Value} {below : List Frame} {meth : Method} {c : Code} {D : va_G} {E : Ev} {A : Nat → Prop} {KC KS : Nat} (C : XC p R s m args c D E A 3 RX12 cX12_isSigned KC KS) (hr : meth.sig.returnType = (some .boolean)) (hlk : meth.locks = false) (hnm : meth.name = "isSigned") (hR : R.frames = 2 ∧ R.locals = 52) {Q : Int32 → Hp → Prop} : ∀ (n : Nat) (a0 : Nat) (xv2 : Int32) (h : Hp) (kc ks : Nat), m_X12_isSigned_L8 n E a0 xv2 h kc ks Q → XW p l e R s m args below meth c (MQ below (va_Qi Q (XPost D A) A) args s KC KS A) D A KC KS 3 h kc ks [(0, .ref a0), (2, .int xv2)] 8 [] := by
  intro n
  induction n with
  | zero => intro a0 xv2 h kc ks hm; exact False.elim hm
  | succ n ih =>
    intro a0 xv2 h kc ks hm
    refine xr_iload_n C dX12_isSigned_8 1 rfl ?_
    refine xr_bipush (v := 8) C dX12_isSigned_9 rfl ?_
    refine xr_icmp_gt (tgt := 36) C dX12_isSigned_11 (by decide) (fun q5 => ?_) (fun q5 => ?_)
    · replace hm := hm.1 q5
      refine xr_aload_n (r := (some a0)) C dX12_isSigned_36 0 rfl ?_
      obtain ⟨fs6, r7, e6, f6, hm⟩ := hm
      refine xr_get (ci := 13) C 17 e6 f6 rfl inX12 (by decide) wd_667 dX12_isSigned_37 ?_
      refine xr_iconst (v := 5) C dX12_isSigned_40 rfl ?_
      obtain ⟨a9, rfl, hm⟩ := hm
      obtain ⟨N8, f8, y10, e8, b8, v8, hm⟩ := hm
      refine xr_lald C 1 rfl e8 b8 v8 dX12_isSigned_41 ?_
      refine xr_aload_n (r := (some a0)) C dX12_isSigned_42 0 rfl ?_
      obtain ⟨fs11, x12, e11, f11, hm⟩ := hm
      refine xr_get (ci := 13) C 36 e11 f11 rfl inX12 (by decide) wd_809 dX12_isSigned_43 ?_
      refine xr_i2l (v := x12.toInt64) C dX12_isSigned_46 rfl ?_
      refine xr_lcmp C dX12_isSigned_47 ?_
      refine xr_if_ge (tgt := 76) C dX12_isSigned_48 (by decide) (fun q13 => ?_) (fun q13 => ?_)
      · replace hm := hm.1 q13
        refine xr_iconst (v := 0) C dX12_isSigned_76 rfl ?_
        exact xr_zreturn C hr hlk (Or.inl rfl) hm dX12_isSigned_77
      · replace hm := hm.2 q13
        refine xr_aload_n (r := (some a0)) C dX12_isSigned_51 0 rfl ?_
        refine xr_iconst (v := 1) C dX12_isSigned_52 rfl ?_
        refine xr_aload_n (r := (some a0)) C dX12_isSigned_53 0 rfl ?_
        obtain ⟨fs14, r15, e14, f14, hm⟩ := hm
        refine xr_get (ci := 13) C 17 e14 f14 rfl inX12 (by decide) wd_667 dX12_isSigned_54 ?_
        refine xr_iconst (v := 5) C dX12_isSigned_57 rfl ?_
        obtain ⟨a17, rfl, hm⟩ := hm
        obtain ⟨N16, f16, y18, e16, b16, v16, hm⟩ := hm
        refine xr_lald C 1 rfl e16 b16 v16 dX12_isSigned_58 ?_
        refine xr_aload_n (r := (some a0)) C dX12_isSigned_59 0 rfl ?_
        obtain ⟨fs19, r20, e19, f19, hm⟩ := hm
        refine xr_get (ci := 13) C 17 e19 f19 rfl inX12 (by decide) wd_667 dX12_isSigned_60 ?_
        refine xr_bipush (v := 11) C dX12_isSigned_63 rfl ?_
        obtain ⟨a22, rfl, hm⟩ := hm
        obtain ⟨N21, f21, y23, e21, b21, v21, hm⟩ := hm
        refine xr_lald C 1 rfl e21 b21 v21 dX12_isSigned_65 ?_
        obtain ⟨⟨fs24, e24⟩, hm⟩ := hm
        refine xr_cVi (n := 3) (As := [.int 1, .long y18, .long y23]) (st := []) C (c_X12_isGood a0 1 y18 y23 h 0 0 hm) e24 rfl wd_756 wd_758 wd_759 wd_712 wd_757 (by decide +kernel) rfl (by rw [hR.1, hR.2]; decide) (Nat.zero_add _).symm (Nat.zero_add _).symm rfl (Nat.le_of_ble_eq_true rfl) dX12_isSigned_66 (fun x25 h26 hn => ?_)
        clear hm
        have hm := hn
        clear hn
        refine xr_if_eq (tgt := 76) C dX12_isSigned_69 (by decide) (fun q27 => ?_) (fun q27 => ?_)
        · replace hm := hm.1 q27
          refine xr_iconst (v := 0) C dX12_isSigned_76 rfl ?_
          exact xr_zreturn C hr hlk (Or.inl rfl) hm dX12_isSigned_77
        · replace hm := hm.2 q27
          refine xr_iconst (v := 1) C dX12_isSigned_72 rfl ?_
          refine xr_goto (tgt := 77) C dX12_isSigned_73 (by decide) ?_
          exact xr_zreturn C hr hlk (Or.inr rfl) hm dX12_isSigned_77
    · replace hm := hm.2 q5
      refine xr_iload_n C dX12_isSigned_14 1 rfl ?_
      refine xr_bipush (v := 7) C dX12_isSigned_15 rfl ?_
      refine xr_icmp_eq (tgt := 30) C dX12_isSigned_17 (by decide) (fun q28 => ?_) (fun q28 => ?_)
      · replace hm := hm.1 q28
        exact k_X12_isSigned_L30 C hr hlk hnm hR ih a0 xv2 _ _ _ hm
      · replace hm := hm.2 q28
        refine xr_aload_n (r := (some a0)) C dX12_isSigned_20 0 rfl ?_
        refine xr_aload_n (r := (some a0)) C dX12_isSigned_21 0 rfl ?_
        obtain ⟨fs29, r30, e29, f29, hm⟩ := hm
        refine xr_get (ci := 13) C 17 e29 f29 rfl inX12 (by decide) wd_667 dX12_isSigned_22 ?_
        refine xr_iload_n C dX12_isSigned_25 1 rfl ?_
        obtain ⟨a32, rfl, hm⟩ := hm
        obtain ⟨N31, f31, y33, e31, b31, v31, hm⟩ := hm
        refine xr_lald C 1 rfl e31 b31 v31 dX12_isSigned_26 ?_
        obtain ⟨⟨fs34, e34⟩, hm⟩ := hm
        refine xr_cVv (n := 1) (As := [.long y33]) (st := []) C (c_X12_more a0 y33 h 0 0 hm) e34 rfl wd_747 wd_749 wd_750 wd_712 wd_748 (by decide +kernel) rfl (by rw [hR.1, hR.2]; decide) (Nat.zero_add _).symm (Nat.zero_add _).symm rfl (Nat.le_of_ble_eq_true rfl) dX12_isSigned_27 (fun h36 hn => ?_)
        clear hm
        have hm := hn
        clear hn
        exact k_X12_isSigned_L30 C hr hlk hnm hR ih a0 xv2 _ _ _ hm
set_option maxRecDepth 100000 in
set_option maxHeartbeats 4000000 in
theorem c_X12_isSigned {l : Launch} {D : va_G} {E : Ev} (a0 : Nat) (xp1 : Int32) (h : Hp) (kc ks : Nat) {Q : Int32 → Hp → Prop} (hm : m_X12_isSigned E a0 xp1 h kc ks Q) : XMet l yX12_isSigned cX12_isSigned 3 (some .boolean) 2 52 kc ks D E h [.ref a0, .int xp1] (fun A => va_Qi Q (XPost D A) A) := by
  refine xm_of (lv0 := [(0, .ref a0), (1, .int xp1)]) (by decide) (Nat.le_of_ble_eq_true rfl) rfl RX12 rfl (fun p e s m args below meth c A R hRm C hr hlk hnm => ?_)
  have hR : R.frames = 2 ∧ R.locals = 52 := by rw [hRm]; exact ⟨rfl, rfl⟩
  refine xr_aload_n (r := (some a0)) C dX12_isSigned_0 0 rfl ?_
  refine xr_iload_n C dX12_isSigned_1 1 rfl ?_
  refine xr_i2l (v := xp1.toInt64) C dX12_isSigned_2 rfl ?_
  obtain ⟨⟨fs1, e1⟩, hm⟩ := hm
  refine xr_cVv (n := 1) (As := [.long xp1.toInt64]) (st := []) C (c_X12_begin a0 xp1.toInt64 h 0 0 hm) e1 rfl wd_751 wd_753 wd_754 wd_712 wd_752 (by decide +kernel) rfl (by rw [hR.1, hR.2]; decide) (Nat.zero_add _).symm (Nat.zero_add _).symm rfl (Nat.le_of_ble_eq_true rfl) dX12_isSigned_3 (fun h3 hn => ?_)
  clear hm
  have hm := hn
  clear hn
  refine xr_iconst (v := 1) C dX12_isSigned_6 rfl ?_
  refine xr_istore_n (lv' := [(2, .int 1), (0, .ref a0), (1, .int xp1)]) C dX12_isSigned_7 (by decide) rfl ?_
  obtain ⟨n4, hm⟩ := hm
  refine xr_sub [1, 0] rfl ?_
  exact k_X12_isSigned_L8 C hr hlk hnm hR n4 a0 1 _ _ _ hm
set_option maxRecDepth 100000 in
set_option maxHeartbeats 4000000 in
theorem c_X12_isAnswer {l : Launch} {D : va_G} {E : Ev} (a0 : Nat) (xp1 : Int32) (h : Hp) (kc ks : Nat) {Q : Int32 → Hp → Prop} (hm : m_X12_isAnswer E a0 xp1 h kc ks Q) : XMet l yX12_isAnswer cX12_isAnswer 2 (some .boolean) 2 52 kc ks D E h [.ref a0, .int xp1] (fun A => va_Qi Q (XPost D A) A) := by
  refine xm_of (lv0 := [(0, .ref a0), (1, .int xp1)]) (by decide) (Nat.le_of_ble_eq_true rfl) rfl RX12 rfl (fun p e s m args below meth c A R hRm C hr hlk hnm => ?_)
  have hR : R.frames = 2 ∧ R.locals = 52 := by rw [hRm]; exact ⟨rfl, rfl⟩
  refine xr_aload_n (r := (some a0)) C dX12_isAnswer_0 0 rfl ?_
  refine xr_ldc2 (v := 6) C dX12_isAnswer_1 wd_741 ?_
  obtain ⟨⟨fs1, e1⟩, hm⟩ := hm
  refine xr_cVv (n := 1) (As := [.long 6]) (st := []) C (c_X12_begin a0 6 h 0 0 hm) e1 rfl wd_751 wd_753 wd_754 wd_712 wd_752 (by decide +kernel) rfl (by rw [hR.1, hR.2]; decide) (Nat.zero_add _).symm (Nat.zero_add _).symm rfl (Nat.le_of_ble_eq_true rfl) dX12_isAnswer_4 (fun h3 hn => ?_)
  clear hm
  have hm := hn
  clear hn
  refine xr_aload_n (r := (some a0)) C dX12_isAnswer_7 0 rfl ?_
  refine xr_iload_n C dX12_isAnswer_8 1 rfl ?_
  refine xr_i2l (v := xp1.toInt64) C dX12_isAnswer_9 rfl ?_
  obtain ⟨⟨fs4, e4⟩, hm⟩ := hm
  refine xr_cVv (n := 1) (As := [.long xp1.toInt64]) (st := []) C (c_X12_more a0 xp1.toInt64 h3 0 0 hm) e4 rfl wd_747 wd_749 wd_750 wd_712 wd_748 (by decide +kernel) rfl (by rw [hR.1, hR.2]; decide) (Nat.zero_add _).symm (Nat.zero_add _).symm rfl (Nat.le_of_ble_eq_true rfl) dX12_isAnswer_10 (fun h6 hn => ?_)
  clear hm
  have hm := hn
  clear hn
  refine xr_aload_n (r := (some a0)) C dX12_isAnswer_13 0 rfl ?_
  refine xr_aload_n (r := (some a0)) C dX12_isAnswer_14 0 rfl ?_
  obtain ⟨fs7, r8, e7, f7, hm⟩ := hm
  refine xr_get (ci := 13) C 17 e7 f7 rfl inX12 (by decide) wd_667 dX12_isAnswer_15 ?_
  refine xr_iconst (v := 3) C dX12_isAnswer_18 rfl ?_
  obtain ⟨a10, rfl, hm⟩ := hm
  obtain ⟨N9, f9, y11, e9, b9, v9, hm⟩ := hm
  refine xr_lald C 1 rfl e9 b9 v9 dX12_isAnswer_19 ?_
  obtain ⟨⟨fs12, e12⟩, hm⟩ := hm
  refine xr_cVv (n := 1) (As := [.long y11]) (st := []) C (c_X12_more a0 y11 h6 0 0 hm) e12 rfl wd_747 wd_749 wd_750 wd_712 wd_748 (by decide +kernel) rfl (by rw [hR.1, hR.2]; decide) (Nat.zero_add _).symm (Nat.zero_add _).symm rfl (Nat.le_of_ble_eq_true rfl) dX12_isAnswer_20 (fun h14 hn => ?_)
  clear hm
  have hm := hn
  clear hn
  refine xr_aload_n (r := (some a0)) C dX12_isAnswer_23 0 rfl ?_
  refine xr_aload_n (r := (some a0)) C dX12_isAnswer_24 0 rfl ?_
  obtain ⟨fs15, r16, e15, f15, hm⟩ := hm
  refine xr_get (ci := 13) C 17 e15 f15 rfl inX12 (by decide) wd_667 dX12_isAnswer_25 ?_
  refine xr_iconst (v := 4) C dX12_isAnswer_28 rfl ?_
  obtain ⟨a18, rfl, hm⟩ := hm
  obtain ⟨N17, f17, y19, e17, b17, v17, hm⟩ := hm
  refine xr_lald C 1 rfl e17 b17 v17 dX12_isAnswer_29 ?_
  obtain ⟨⟨fs20, e20⟩, hm⟩ := hm
  refine xr_cVv (n := 1) (As := [.long y19]) (st := []) C (c_X12_more a0 y19 h14 0 0 hm) e20 rfl wd_747 wd_749 wd_750 wd_712 wd_748 (by decide +kernel) rfl (by rw [hR.1, hR.2]; decide) (Nat.zero_add _).symm (Nat.zero_add _).symm rfl (Nat.le_of_ble_eq_true rfl) dX12_isAnswer_30 (fun h22 hn => ?_)
  clear hm
  have hm := hn
  clear hn
  refine xr_aload_n (r := (some a0)) C dX12_isAnswer_33 0 rfl ?_
  refine xr_aload_n (r := (some a0)) C dX12_isAnswer_34 0 rfl ?_
  obtain ⟨fs23, r24, e23, f23, hm⟩ := hm
  refine xr_get (ci := 13) C 17 e23 f23 rfl inX12 (by decide) wd_667 dX12_isAnswer_35 ?_
  refine xr_iconst (v := 5) C dX12_isAnswer_38 rfl ?_
  obtain ⟨a26, rfl, hm⟩ := hm
  obtain ⟨N25, f25, y27, e25, b25, v25, hm⟩ := hm
  refine xr_lald C 1 rfl e25 b25 v25 dX12_isAnswer_39 ?_
  obtain ⟨⟨fs28, e28⟩, hm⟩ := hm
  refine xr_cVv (n := 1) (As := [.long y27]) (st := []) C (c_X12_more a0 y27 h22 0 0 hm) e28 rfl wd_747 wd_749 wd_750 wd_712 wd_748 (by decide +kernel) rfl (by rw [hR.1, hR.2]; decide) (Nat.zero_add _).symm (Nat.zero_add _).symm rfl (Nat.le_of_ble_eq_true rfl) dX12_isAnswer_40 (fun h30 hn => ?_)
  clear hm
  have hm := hn
  clear hn
  refine xr_aload_n (r := (some a0)) C dX12_isAnswer_43 0 rfl ?_
  refine xr_aload_n (r := (some a0)) C dX12_isAnswer_44 0 rfl ?_
  obtain ⟨fs31, r32, e31, f31, hm⟩ := hm
  refine xr_get (ci := 13) C 17 e31 f31 rfl inX12 (by decide) wd_667 dX12_isAnswer_45 ?_
  refine xr_iconst (v := 2) C dX12_isAnswer_48 rfl ?_
  obtain ⟨a34, rfl, hm⟩ := hm
  obtain ⟨N33, f33, y35, e33, b33, v33, hm⟩ := hm
  refine xr_lald C 1 rfl e33 b33 v33 dX12_isAnswer_49 ?_
  obtain ⟨⟨fs36, e36⟩, hm⟩ := hm
  refine xr_cVv (n := 1) (As := [.long y35]) (st := []) C (c_X12_more a0 y35 h30 0 0 hm) e36 rfl wd_747 wd_749 wd_750 wd_712 wd_748 (by decide +kernel) rfl (by rw [hR.1, hR.2]; decide) (Nat.zero_add _).symm (Nat.zero_add _).symm rfl (Nat.le_of_ble_eq_true rfl) dX12_isAnswer_50 (fun h38 hn => ?_)
  clear hm
  have hm := hn
  clear hn
  refine xr_aload_n (r := (some a0)) C dX12_isAnswer_53 0 rfl ?_
  refine xr_aload_n (r := (some a0)) C dX12_isAnswer_54 0 rfl ?_
  obtain ⟨fs39, r40, e39, f39, hm⟩ := hm
  refine xr_get (ci := 13) C 17 e39 f39 rfl inX12 (by decide) wd_667 dX12_isAnswer_55 ?_
  refine xr_bipush (v := 6) C dX12_isAnswer_58 rfl ?_
  obtain ⟨a42, rfl, hm⟩ := hm
  obtain ⟨N41, f41, y43, e41, b41, v41, hm⟩ := hm
  refine xr_lald C 1 rfl e41 b41 v41 dX12_isAnswer_60 ?_
  obtain ⟨⟨fs44, e44⟩, hm⟩ := hm
  refine xr_cVv (n := 1) (As := [.long y43]) (st := []) C (c_X12_more a0 y43 h38 0 0 hm) e44 rfl wd_747 wd_749 wd_750 wd_712 wd_748 (by decide +kernel) rfl (by rw [hR.1, hR.2]; decide) (Nat.zero_add _).symm (Nat.zero_add _).symm rfl (Nat.le_of_ble_eq_true rfl) dX12_isAnswer_61 (fun h46 hn => ?_)
  clear hm
  have hm := hn
  clear hn
  refine xr_aload_n (r := (some a0)) C dX12_isAnswer_64 0 rfl ?_
  obtain ⟨fs47, r48, e47, f47, hm⟩ := hm
  refine xr_get (ci := 13) C 17 e47 f47 rfl inX12 (by decide) wd_667 dX12_isAnswer_65 ?_
  refine xr_iconst (v := 1) C dX12_isAnswer_68 rfl ?_
  obtain ⟨a50, rfl, hm⟩ := hm
  obtain ⟨N49, f49, y51, e49, b49, v49, hm⟩ := hm
  refine xr_lald C 1 rfl e49 b49 v49 dX12_isAnswer_69 ?_
  refine xr_aload_n (r := (some a0)) C dX12_isAnswer_70 0 rfl ?_
  obtain ⟨fs52, x53, e52, f52, hm⟩ := hm
  refine xr_get (ci := 13) C 21 e52 f52 rfl inX12 (by decide) wd_779 dX12_isAnswer_71 ?_
  refine xr_i2l (v := x53.toInt64) C dX12_isAnswer_74 rfl ?_
  refine xr_lcmp C dX12_isAnswer_75 ?_
  refine xr_if_ge (tgt := 104) C dX12_isAnswer_76 (by decide) (fun q54 => ?_) (fun q54 => ?_)
  · replace hm := hm.1 q54
    refine xr_iconst (v := 0) C dX12_isAnswer_104 rfl ?_
    exact xr_zreturn C hr hlk (Or.inl rfl) hm dX12_isAnswer_105
  · replace hm := hm.2 q54
    refine xr_aload_n (r := (some a0)) C dX12_isAnswer_79 0 rfl ?_
    refine xr_iconst (v := 0) C dX12_isAnswer_80 rfl ?_
    refine xr_aload_n (r := (some a0)) C dX12_isAnswer_81 0 rfl ?_
    obtain ⟨fs55, r56, e55, f55, hm⟩ := hm
    refine xr_get (ci := 13) C 17 e55 f55 rfl inX12 (by decide) wd_667 dX12_isAnswer_82 ?_
    refine xr_iconst (v := 1) C dX12_isAnswer_85 rfl ?_
    obtain ⟨a58, rfl, hm⟩ := hm
    obtain ⟨N57, f57, y59, e57, b57, v57, hm⟩ := hm
    refine xr_lald C 1 rfl e57 b57 v57 dX12_isAnswer_86 ?_
    refine xr_aload_n (r := (some a0)) C dX12_isAnswer_87 0 rfl ?_
    obtain ⟨fs60, r61, e60, f60, hm⟩ := hm
    refine xr_get (ci := 13) C 17 e60 f60 rfl inX12 (by decide) wd_667 dX12_isAnswer_88 ?_
    refine xr_bipush (v := 8) C dX12_isAnswer_91 rfl ?_
    obtain ⟨a63, rfl, hm⟩ := hm
    obtain ⟨N62, f62, y64, e62, b62, v62, hm⟩ := hm
    refine xr_lald C 1 rfl e62 b62 v62 dX12_isAnswer_93 ?_
    obtain ⟨⟨fs65, e65⟩, hm⟩ := hm
    refine xr_cVi (n := 3) (As := [.int 0, .long y59, .long y64]) (st := []) C (c_X12_isGood a0 0 y59 y64 h46 0 0 hm) e65 rfl wd_756 wd_758 wd_759 wd_712 wd_757 (by decide +kernel) rfl (by rw [hR.1, hR.2]; decide) (Nat.zero_add _).symm (Nat.zero_add _).symm rfl (Nat.le_of_ble_eq_true rfl) dX12_isAnswer_94 (fun x66 h67 hn => ?_)
    clear hm
    have hm := hn
    clear hn
    refine xr_if_eq (tgt := 104) C dX12_isAnswer_97 (by decide) (fun q68 => ?_) (fun q68 => ?_)
    · replace hm := hm.1 q68
      refine xr_iconst (v := 0) C dX12_isAnswer_104 rfl ?_
      exact xr_zreturn C hr hlk (Or.inl rfl) hm dX12_isAnswer_105
    · replace hm := hm.2 q68
      refine xr_iconst (v := 1) C dX12_isAnswer_100 rfl ?_
      refine xr_goto (tgt := 105) C dX12_isAnswer_101 (by decide) ?_
      exact xr_zreturn C hr hlk (Or.inr rfl) hm dX12_isAnswer_105
set_option maxRecDepth 100000 in
set_option maxHeartbeats 4000000 in
theorem c_X12_debit {l : Launch} {D : va_G} {E : Ev} (a0 : Nat) (xp1 : Int32) (h : Hp) (kc ks : Nat) {Q : Hp → Prop} (hm : m_X12_debit E a0 xp1 h kc ks Q) : XMet l yX12_debit cX12_debit 4 none 0 0 kc ks D E h [.ref a0, .int xp1] (fun A => va_Qv Q (XPost D A) A) := by
  refine xm_of (lv0 := [(0, .ref a0), (1, .int xp1)]) (by decide) (Nat.le_of_ble_eq_true rfl) rfl RX12 rfl (fun p e s m args below meth c A R hRm C hr hlk hnm => ?_)
  have hR : R.frames = 0 ∧ R.locals = 0 := by rw [hRm]; exact ⟨rfl, rfl⟩
  refine xr_aload_n (r := (some a0)) C dX12_debit_0 0 rfl ?_
  obtain ⟨fs1, r2, e1, f1, hm⟩ := hm
  refine xr_get (ci := 13) C 17 e1 f1 rfl inX12 (by decide) wd_667 dX12_debit_1 ?_
  refine xr_iconst (v := 1) C dX12_debit_4 rfl ?_
  obtain ⟨a4, rfl, hm⟩ := hm
  obtain ⟨N3, f3, y5, e3, b3, v3, hm⟩ := hm
  refine xr_lald C 1 rfl e3 b3 v3 dX12_debit_5 ?_
  refine xr_l2i (v := y5.toInt32) C dX12_debit_6 rfl ?_
  refine xr_istore_n (lv' := [(2, .int y5.toInt32), (0, .ref a0), (1, .int xp1)]) C dX12_debit_7 (by decide) rfl ?_
  refine xr_aload_n (r := (some a0)) C dX12_debit_8 1 rfl ?_
  obtain ⟨fs6, r7, e6, f6, hm⟩ := hm
  refine xr_get (ci := 13) C 25 e6 f6 rfl inX12 (by decide) wd_673 dX12_debit_9 ?_
  refine xr_iload_n C dX12_debit_12 0 rfl ?_
  refine xr_dup2_11 C dX12_debit_13 rfl (xv_cat _) ?_
  obtain ⟨a9, rfl, hm⟩ := hm
  obtain ⟨N8, f8, y10, e8, b8, v8, hm⟩ := hm
  refine xr_lald C 1 rfl e8 b8 v8 dX12_debit_14 ?_
  refine xr_aload_n (r := (some a0)) C dX12_debit_15 1 rfl ?_
  obtain ⟨fs11, r12, e11, f11, hm⟩ := hm
  refine xr_get (ci := 13) C 17 e11 f11 rfl inX12 (by decide) wd_667 dX12_debit_16 ?_
  refine xr_iconst (v := 3) C dX12_debit_19 rfl ?_
  obtain ⟨a14, rfl, hm⟩ := hm
  obtain ⟨N13, f13, y15, e13, b13, v13, hm⟩ := hm
  refine xr_lald C 1 rfl e13 b13 v13 dX12_debit_20 ?_
  refine xr_lsub C dX12_debit_21 ?_
  obtain ⟨N16, f16, e16, b16, h17, v16, hm⟩ := hm
  refine xr_last C 1 rfl e16 b16 v16 dX12_debit_22 ?_
  refine xr_bipush (v := 7) C dX12_debit_23 rfl ?_
  refine xr_aload_n (r := (some a0)) C dX12_debit_25 1 rfl ?_
  obtain ⟨fs18, x19, e18, f18, hm⟩ := hm
  refine xr_get (ci := 13) C 61 e18 f18 rfl inX12 (by decide) wd_810 dX12_debit_26 ?_
  refine xr_imul C dX12_debit_29 ?_
  refine xr_istore_n (lv' := [(3, .int (7 * x19)), (2, .int y5.toInt32), (0, .ref a0), (1, .int xp1)]) C dX12_debit_30 (by decide) rfl ?_
  refine xr_aload_n (r := (some a0)) C dX12_debit_31 2 rfl ?_
  obtain ⟨fs20, r21, e20, f20, hm⟩ := hm
  refine xr_get (ci := 13) C 62 e20 f20 rfl inX12 (by decide) wd_704 dX12_debit_32 ?_
  refine xr_iload_n C dX12_debit_35 0 rfl ?_
  refine xr_iload_n C dX12_debit_36 1 rfl ?_
  refine xr_i2l (v := y5.toInt32.toInt64) C dX12_debit_37 rfl ?_
  obtain ⟨a23, rfl, hm⟩ := hm
  obtain ⟨N22, f22, e22, b22, h24, v22, hm⟩ := hm
  refine xr_last C 1 rfl e22 b22 v22 dX12_debit_38 ?_
  refine xr_aload_n (r := (some a0)) C dX12_debit_39 2 rfl ?_
  obtain ⟨fs25, r26, e25, f25, hm⟩ := hm
  refine xr_get (ci := 13) C 62 e25 f25 rfl inX12 (by decide) wd_704 dX12_debit_40 ?_
  refine xr_iload_n C dX12_debit_43 0 rfl ?_
  refine xr_iconst (v := 1) C dX12_debit_44 rfl ?_
  refine xr_iadd C dX12_debit_45 ?_
  refine xr_aload_n (r := (some a0)) C dX12_debit_46 2 rfl ?_
  obtain ⟨fs27, r28, e27, f27, hm⟩ := hm
  refine xr_get (ci := 13) C 17 e27 f27 rfl inX12 (by decide) wd_667 dX12_debit_47 ?_
  refine xr_iconst (v := 2) C dX12_debit_50 rfl ?_
  obtain ⟨a30, rfl, hm⟩ := hm
  obtain ⟨N29, f29, y31, e29, b29, v29, hm⟩ := hm
  refine xr_lald C 1 rfl e29 b29 v29 dX12_debit_51 ?_
  obtain ⟨a33, rfl, hm⟩ := hm
  obtain ⟨N32, f32, e32, b32, h34, v32, hm⟩ := hm
  refine xr_last C 1 rfl e32 b32 v32 dX12_debit_52 ?_
  refine xr_aload_n (r := (some a0)) C dX12_debit_53 2 rfl ?_
  obtain ⟨fs35, r36, e35, f35, hm⟩ := hm
  refine xr_get (ci := 13) C 62 e35 f35 rfl inX12 (by decide) wd_704 dX12_debit_54 ?_
  refine xr_iload_n C dX12_debit_57 0 rfl ?_
  refine xr_iconst (v := 2) C dX12_debit_58 rfl ?_
  refine xr_iadd C dX12_debit_59 ?_
  refine xr_aload_n (r := (some a0)) C dX12_debit_60 2 rfl ?_
  obtain ⟨fs37, r38, e37, f37, hm⟩ := hm
  refine xr_get (ci := 13) C 17 e37 f37 rfl inX12 (by decide) wd_667 dX12_debit_61 ?_
  refine xr_iconst (v := 3) C dX12_debit_64 rfl ?_
  obtain ⟨a40, rfl, hm⟩ := hm
  obtain ⟨N39, f39, y41, e39, b39, v39, hm⟩ := hm
  refine xr_lald C 1 rfl e39 b39 v39 dX12_debit_65 ?_
  obtain ⟨a43, rfl, hm⟩ := hm
  obtain ⟨N42, f42, e42, b42, h44, v42, hm⟩ := hm
  refine xr_last C 1 rfl e42 b42 v42 dX12_debit_66 ?_
  refine xr_aload_n (r := (some a0)) C dX12_debit_67 2 rfl ?_
  obtain ⟨fs45, r46, e45, f45, hm⟩ := hm
  refine xr_get (ci := 13) C 62 e45 f45 rfl inX12 (by decide) wd_704 dX12_debit_68 ?_
  refine xr_iload_n C dX12_debit_71 0 rfl ?_
  refine xr_iconst (v := 3) C dX12_debit_72 rfl ?_
  refine xr_iadd C dX12_debit_73 ?_
  refine xr_aload_n (r := (some a0)) C dX12_debit_74 2 rfl ?_
  obtain ⟨fs47, r48, e47, f47, hm⟩ := hm
  refine xr_get (ci := 13) C 17 e47 f47 rfl inX12 (by decide) wd_667 dX12_debit_75 ?_
  refine xr_iconst (v := 4) C dX12_debit_78 rfl ?_
  obtain ⟨a50, rfl, hm⟩ := hm
  obtain ⟨N49, f49, y51, e49, b49, v49, hm⟩ := hm
  refine xr_lald C 1 rfl e49 b49 v49 dX12_debit_79 ?_
  obtain ⟨a53, rfl, hm⟩ := hm
  obtain ⟨N52, f52, e52, b52, h54, v52, hm⟩ := hm
  refine xr_last C 1 rfl e52 b52 v52 dX12_debit_80 ?_
  refine xr_aload_n (r := (some a0)) C dX12_debit_81 2 rfl ?_
  obtain ⟨fs55, r56, e55, f55, hm⟩ := hm
  refine xr_get (ci := 13) C 62 e55 f55 rfl inX12 (by decide) wd_704 dX12_debit_82 ?_
  refine xr_iload_n C dX12_debit_85 0 rfl ?_
  refine xr_iconst (v := 4) C dX12_debit_86 rfl ?_
  refine xr_iadd C dX12_debit_87 ?_
  refine xr_aload_n (r := (some a0)) C dX12_debit_88 2 rfl ?_
  obtain ⟨fs57, r58, e57, f57, hm⟩ := hm
  refine xr_get (ci := 13) C 17 e57 f57 rfl inX12 (by decide) wd_667 dX12_debit_89 ?_
  refine xr_iconst (v := 5) C dX12_debit_92 rfl ?_
  obtain ⟨a60, rfl, hm⟩ := hm
  obtain ⟨N59, f59, y61, e59, b59, v59, hm⟩ := hm
  refine xr_lald C 1 rfl e59 b59 v59 dX12_debit_93 ?_
  obtain ⟨a63, rfl, hm⟩ := hm
  obtain ⟨N62, f62, e62, b62, h64, v62, hm⟩ := hm
  refine xr_last C 1 rfl e62 b62 v62 dX12_debit_94 ?_
  refine xr_aload_n (r := (some a0)) C dX12_debit_95 2 rfl ?_
  obtain ⟨fs65, r66, e65, f65, hm⟩ := hm
  refine xr_get (ci := 13) C 62 e65 f65 rfl inX12 (by decide) wd_704 dX12_debit_96 ?_
  refine xr_iload_n C dX12_debit_99 0 rfl ?_
  refine xr_iconst (v := 5) C dX12_debit_100 rfl ?_
  refine xr_iadd C dX12_debit_101 ?_
  refine xr_aload_n (r := (some a0)) C dX12_debit_102 2 rfl ?_
  obtain ⟨fs67, r68, e67, f67, hm⟩ := hm
  refine xr_get (ci := 13) C 17 e67 f67 rfl inX12 (by decide) wd_667 dX12_debit_103 ?_
  refine xr_bipush (v := 6) C dX12_debit_106 rfl ?_
  obtain ⟨a70, rfl, hm⟩ := hm
  obtain ⟨N69, f69, y71, e69, b69, v69, hm⟩ := hm
  refine xr_lald C 1 rfl e69 b69 v69 dX12_debit_108 ?_
  obtain ⟨a73, rfl, hm⟩ := hm
  obtain ⟨N72, f72, e72, b72, h74, v72, hm⟩ := hm
  refine xr_last C 1 rfl e72 b72 v72 dX12_debit_109 ?_
  refine xr_aload_n (r := (some a0)) C dX12_debit_110 2 rfl ?_
  obtain ⟨fs75, r76, e75, f75, hm⟩ := hm
  refine xr_get (ci := 13) C 62 e75 f75 rfl inX12 (by decide) wd_704 dX12_debit_111 ?_
  refine xr_iload_n C dX12_debit_114 0 rfl ?_
  refine xr_bipush (v := 6) C dX12_debit_115 rfl ?_
  refine xr_iadd C dX12_debit_117 ?_
  refine xr_iload_n C dX12_debit_118 3 rfl ?_
  refine xr_i2l (v := xp1.toInt64) C dX12_debit_119 rfl ?_
  obtain ⟨a78, rfl, hm⟩ := hm
  obtain ⟨N77, f77, e77, b77, h79, v77, hm⟩ := hm
  refine xr_last C 1 rfl e77 b77 v77 dX12_debit_120 ?_
  refine xr_aload_n (r := (some a0)) C dX12_debit_121 2 rfl ?_
  refine xr_dup C dX12_debit_122 rfl ?_
  obtain ⟨fs80, x81, e80, f80, hm⟩ := hm
  refine xr_get (ci := 13) C 61 e80 f80 rfl inX12 (by decide) wd_810 dX12_debit_123 ?_
  refine xr_iconst (v := 1) C dX12_debit_126 rfl ?_
  refine xr_iadd C dX12_debit_127 ?_
  obtain ⟨fs82, e82, f82, h83, eh82, hm⟩ := hm
  refine xr_put (ci := 13) (v := .int (x81 + 1)) C 61 .int tyX12 tyX12_ok nmX12 e82 f82 rfl inX12 (by decide) wd_810 rfl (by decide) rfl rfl eh82 dX12_debit_128 ?_
  exact xr_vreturn C hr hlk hm dX12_debit_131
set_option maxRecDepth 100000 in
set_option maxHeartbeats 4000000 in
theorem k_X12_toHost_L93 {p : Program} {l : Launch} {e : Env} {R : Room} {s : State} {m : MethodId} {args : Array Value} {below : List Frame} {meth : Method} {c : Code} {D : va_G} {E : Ev} {A : Nat → Prop} {KC KS : Nat} (C : XC p R s m args c D E A 6 RX12 cX12_toHost KC KS) (hr : meth.sig.returnType = (some .boolean)) (hlk : meth.locks = false) (hnm : meth.name = "toHost") (hR : R.frames = 3 ∧ R.locals = 74) {K36 : Nat → Int32 → Int32 → Hp → Nat → Nat → Prop} {Q : Int32 → Hp → Prop} (hK36 : ∀ (a0 : Nat) (xv2 : Int32) (xv3 : Int32) (h : Hp) (kc ks : Nat), K36 a0 xv2 xv3 h kc ks → XW p l e R s m args below meth c (MQ below (va_Qi Q (XPost D A) A) args s KC KS A) D A KC KS 6 h kc ks [(0, .ref a0), (2, .int xv2), (3, .int xv3)] 36 []) : ∀ (a0 : Nat) (xv3 : Int32) (s0 : Int32) (h : Hp) (kc ks : Nat), m_X12_toHost_L93 E a0 xv3 s0 h kc ks K36 Q → XW p l e R s m args below meth c (MQ below (va_Qi Q (XPost D A) A) args s KC KS A) D A KC KS 6 h kc ks [(0, .ref a0), (3, .int xv3)] 93 [.int s0] := by
  intro a0 xv3 s0 h kc ks hm
  refine xr_istore_n (lv' := [(2, .int s0), (0, .ref a0), (3, .int xv3)]) C dX12_toHost_93 (by decide) rfl ?_
  refine xr_iinc (j := 2) (v := xv3 + 1) (lv' := [(3, .int (xv3 + 1)), (2, .int s0), (0, .ref a0)]) C dX12_toHost_94 rfl rfl (by decide) rfl ?_
  refine xr_goto (tgt := 36) C dX12_toHost_97 (by decide) ?_
  refine xr_sub [2, 1, 0] rfl ?_
  exact hK36 a0 s0 (xv3 + 1) _ _ _ hm
set_option maxRecDepth 100000 in
set_option maxHeartbeats 4000000 in
theorem k_X12_toHost_L88 {p : Program} {l : Launch} {e : Env} {R : Room} {s : State} {m : MethodId} {args : Array Value} {below : List Frame} {meth : Method} {c : Code} {D : va_G} {E : Ev} {A : Nat → Prop} {KC KS : Nat} (C : XC p R s m args c D E A 6 RX12 cX12_toHost KC KS) (hr : meth.sig.returnType = (some .boolean)) (hlk : meth.locks = false) (hnm : meth.name = "toHost") (hR : R.frames = 3 ∧ R.locals = 74) {K36 : Nat → Int32 → Int32 → Hp → Nat → Nat → Prop} {Q : Int32 → Hp → Prop} (hK36 : ∀ (a0 : Nat) (xv2 : Int32) (xv3 : Int32) (h : Hp) (kc ks : Nat), K36 a0 xv2 xv3 h kc ks → XW p l e R s m args below meth c (MQ below (va_Qi Q (XPost D A) A) args s KC KS A) D A KC KS 6 h kc ks [(0, .ref a0), (2, .int xv2), (3, .int xv3)] 36 []) : ∀ (a0 : Nat) (xv3 : Int32) (h : Hp) (kc ks : Nat), m_X12_toHost_L88 E a0 xv3 h kc ks K36 Q → XW p l e R s m args below meth c (MQ below (va_Qi Q (XPost D A) A) args s KC KS A) D A KC KS 6 h kc ks [(0, .ref a0), (3, .int xv3)] 88 [] := by
  intro a0 xv3 h kc ks hm
  refine xr_iconst (v := 1) C dX12_toHost_88 rfl ?_
  refine xr_goto (tgt := 93) C dX12_toHost_89 (by decide) ?_
  exact k_X12_toHost_L93 C hr hlk hnm hR hK36 a0 xv3 1 _ _ _ hm
set_option maxRecDepth 100000 in
set_option maxHeartbeats 4000000 in
theorem k_X12_toHost_L92 {p : Program} {l : Launch} {e : Env} {R : Room} {s : State} {m : MethodId} {args : Array Value} {below : List Frame} {meth : Method} {c : Code} {D : va_G} {E : Ev} {A : Nat → Prop} {KC KS : Nat} (C : XC p R s m args c D E A 6 RX12 cX12_toHost KC KS) (hr : meth.sig.returnType = (some .boolean)) (hlk : meth.locks = false) (hnm : meth.name = "toHost") (hR : R.frames = 3 ∧ R.locals = 74) {K36 : Nat → Int32 → Int32 → Hp → Nat → Nat → Prop} {Q : Int32 → Hp → Prop} (hK36 : ∀ (a0 : Nat) (xv2 : Int32) (xv3 : Int32) (h : Hp) (kc ks : Nat), K36 a0 xv2 xv3 h kc ks → XW p l e R s m args below meth c (MQ below (va_Qi Q (XPost D A) A) args s KC KS A) D A KC KS 6 h kc ks [(0, .ref a0), (2, .int xv2), (3, .int xv3)] 36 []) : ∀ (a0 : Nat) (xv3 : Int32) (h : Hp) (kc ks : Nat), m_X12_toHost_L92 E a0 xv3 h kc ks K36 Q → XW p l e R s m args below meth c (MQ below (va_Qi Q (XPost D A) A) args s KC KS A) D A KC KS 6 h kc ks [(0, .ref a0), (3, .int xv3)] 92 [] := by
  intro a0 xv3 h kc ks hm
  refine xr_iconst (v := 0) C dX12_toHost_92 rfl ?_
  exact k_X12_toHost_L93 C hr hlk hnm hR hK36 a0 xv3 0 _ _ _ hm
set_option maxRecDepth 100000 in
set_option maxHeartbeats 4000000 in
theorem k_X12_toHost_L36 {p : Program} {l : Launch} {e : Env} {R : Room} {s : State} {m : MethodId} {args : Array Value} {below : List Frame} {meth : Method} {c : Code} {D : va_G} {E : Ev} {A : Nat → Prop} {KC KS : Nat} (C : XC p R s m args c D E A 6 RX12 cX12_toHost KC KS) (hr : meth.sig.returnType = (some .boolean)) (hlk : meth.locks = false) (hnm : meth.name = "toHost") (hR : R.frames = 3 ∧ R.locals = 74) {Q : Int32 → Hp → Prop} : ∀ (n : Nat) (a0 : Nat) (xv2 : Int32) (xv3 : Int32) (h : Hp) (kc ks : Nat), m_X12_toHost_L36 n E a0 xv2 xv3 h kc ks Q → XW p l e R s m args below meth c (MQ below (va_Qi Q (XPost D A) A) args s KC KS A) D A KC KS 6 h kc ks [(0, .ref a0), (2, .int xv2), (3, .int xv3)] 36 [] := by
  intro n
  induction n with
  | zero => intro a0 xv2 xv3 h kc ks hm; exact False.elim hm
  | succ n ih =>
    intro a0 xv2 xv3 h kc ks hm
    refine xr_iload_n C dX12_toHost_36 2 rfl ?_
    refine xr_aload_n (r := (some a0)) C dX12_toHost_37 0 rfl ?_
    obtain ⟨fs59, x60, e59, f59, hm⟩ := hm
    refine xr_get (ci := 13) C 61 e59 f59 rfl inX12 (by decide) wd_810 dX12_toHost_38 ?_
    refine xr_icmp_ge (tgt := 100) C dX12_toHost_41 (by decide) (fun q61 => ?_) (fun q61 => ?_)
    · replace hm := hm.1 q61
      refine xr_iload_n C dX12_toHost_100 1 rfl ?_
      refine xr_if_eq (tgt := 109) C dX12_toHost_101 (by decide) (fun q62 => ?_) (fun q62 => ?_)
      · replace hm := hm.1 q62
        refine xr_iload_n C dX12_toHost_109 1 rfl ?_
        exact xr_zreturn C hr hlk hm.1 hm.2 dX12_toHost_110
      · replace hm := hm.2 q62
        refine xr_aload_n (r := (some a0)) C dX12_toHost_104 0 rfl ?_
        refine xr_iconst (v := 2) C dX12_toHost_105 rfl ?_
        obtain ⟨⟨fs63, e63⟩, hm⟩ := hm
        refine xr_cVv (n := 1) (As := [.int 2]) (st := []) C (c_X12_debit a0 2 h 0 0 hm) e63 rfl wd_819 wd_821 wd_822 wd_712 wd_820 (by decide +kernel) rfl (by rw [hR.1, hR.2]; decide) (Nat.zero_add _).symm (Nat.zero_add _).symm rfl (Nat.le_of_ble_eq_true rfl) dX12_toHost_106 (fun h65 hn => ?_)
        clear hm
        have hm := hn
        clear hn
        refine xr_iload_n C dX12_toHost_109 1 rfl ?_
        exact xr_zreturn C hr hlk hm.1 hm.2 dX12_toHost_110
    · replace hm := hm.2 q61
      refine xr_iload_n C dX12_toHost_44 1 rfl ?_
      refine xr_if_eq (tgt := 92) C dX12_toHost_45 (by decide) (fun q66 => ?_) (fun q66 => ?_)
      · replace hm := hm.1 q66
        refine xr_sub [0, 2] rfl ?_
        exact k_X12_toHost_L92 C hr hlk hnm hR ih a0 xv3 _ _ _ hm
      · replace hm := hm.2 q66
        refine xr_aload_n (r := (some a0)) C dX12_toHost_48 0 rfl ?_
        obtain ⟨fs67, r68, e67, f67, hm⟩ := hm
        refine xr_get (ci := 13) C 62 e67 f67 rfl inX12 (by decide) wd_704 dX12_toHost_49 ?_
        refine xr_bipush (v := 7) C dX12_toHost_52 rfl ?_
        refine xr_iload_n C dX12_toHost_54 2 rfl ?_
        refine xr_imul C dX12_toHost_55 ?_
        obtain ⟨a70, rfl, hm⟩ := hm
        obtain ⟨N69, f69, y71, e69, b69, v69, hm⟩ := hm
        refine xr_lald C 1 rfl e69 b69 v69 dX12_toHost_56 ?_
        refine xr_aload_n (r := (some a0)) C dX12_toHost_57 0 rfl ?_
        obtain ⟨fs72, r73, e72, f72, hm⟩ := hm
        refine xr_get (ci := 13) C 17 e72 f72 rfl inX12 (by decide) wd_667 dX12_toHost_58 ?_
        refine xr_iconst (v := 1) C dX12_toHost_61 rfl ?_
        obtain ⟨a75, rfl, hm⟩ := hm
        obtain ⟨N74, f74, y76, e74, b74, v74, hm⟩ := hm
        refine xr_lald C 1 rfl e74 b74 v74 dX12_toHost_62 ?_
        refine xr_lcmp C dX12_toHost_63 ?_
        refine xr_if_ne (tgt := 88) C dX12_toHost_64 (by decide) (fun q77 => ?_) (fun q77 => ?_)
        · replace hm := hm.2 q77
          refine xr_sub [0, 2] rfl ?_
          exact k_X12_toHost_L88 C hr hlk hnm hR ih a0 xv3 _ _ _ hm
        · replace hm := hm.1 q77
          refine xr_aload_n (r := (some a0)) C dX12_toHost_67 0 rfl ?_
          obtain ⟨fs78, r79, e78, f78, hm⟩ := hm
          refine xr_get (ci := 13) C 62 e78 f78 rfl inX12 (by decide) wd_704 dX12_toHost_68 ?_
          refine xr_bipush (v := 7) C dX12_toHost_71 rfl ?_
          refine xr_iload_n C dX12_toHost_73 2 rfl ?_
          refine xr_imul C dX12_toHost_74 ?_
          refine xr_iconst (v := 1) C dX12_toHost_75 rfl ?_
          refine xr_iadd C dX12_toHost_76 ?_
          obtain ⟨a81, rfl, hm⟩ := hm
          obtain ⟨N80, f80, y82, e80, b80, v80, hm⟩ := hm
          refine xr_lald C 1 rfl e80 b80 v80 dX12_toHost_77 ?_
          refine xr_aload_n (r := (some a0)) C dX12_toHost_78 0 rfl ?_
          obtain ⟨fs83, r84, e83, f83, hm⟩ := hm
          refine xr_get (ci := 13) C 17 e83 f83 rfl inX12 (by decide) wd_667 dX12_toHost_79 ?_
          refine xr_iconst (v := 2) C dX12_toHost_82 rfl ?_
          obtain ⟨a86, rfl, hm⟩ := hm
          obtain ⟨N85, f85, y87, e85, b85, v85, hm⟩ := hm
          refine xr_lald C 1 rfl e85 b85 v85 dX12_toHost_83 ?_
          refine xr_lcmp C dX12_toHost_84 ?_
          refine xr_if_eq (tgt := 92) C dX12_toHost_85 (by decide) (fun q88 => ?_) (fun q88 => ?_)
          · replace hm := hm.1 q88
            refine xr_sub [0, 2] rfl ?_
            exact k_X12_toHost_L92 C hr hlk hnm hR ih a0 xv3 _ _ _ hm
          · replace hm := hm.2 q88
            refine xr_sub [0, 2] rfl ?_
            exact k_X12_toHost_L88 C hr hlk hnm hR ih a0 xv3 _ _ _ hm
set_option maxRecDepth 100000 in
set_option maxHeartbeats 4000000 in
theorem k_X12_toHost_L218 {p : Program} {l : Launch} {e : Env} {R : Room} {s : State} {m : MethodId} {args : Array Value} {below : List Frame} {meth : Method} {c : Code} {D : va_G} {E : Ev} {A : Nat → Prop} {KC KS : Nat} (C : XC p R s m args c D E A 6 RX12 cX12_toHost KC KS) (hr : meth.sig.returnType = (some .boolean)) (hlk : meth.locks = false) (hnm : meth.name = "toHost") (hR : R.frames = 3 ∧ R.locals = 74) {Q : Int32 → Hp → Prop} : ∀ (a0 : Nat) (s0 : Int64) (h : Hp) (kc ks : Nat), m_X12_toHost_L218 E a0 s0 h kc ks Q → XW p l e R s m args below meth c (MQ below (va_Qi Q (XPost D A) A) args s KC KS A) D A KC KS 6 h kc ks [(0, .ref a0)] 218 [.long s0] := by
  intro a0 s0 h kc ks hm
  refine xr_lstore (lv' := [(4, .long s0), (0, .ref a0)]) C dX12_toHost_218 (by decide) rfl ?_
  refine xr_aload_n (r := (some a0)) C dX12_toHost_220 1 rfl ?_
  obtain ⟨fs94, r95, e94, f94, hm⟩ := hm
  refine xr_get (ci := 13) C 18 e94 f94 rfl inX12 (by decide) wd_668 dX12_toHost_221 ?_
  refine xr_iconst (v := 1) C dX12_toHost_224 rfl ?_
  refine xr_aload_n (r := (some a0)) C dX12_toHost_225 1 rfl ?_
  obtain ⟨fs96, r97, e96, f96, hm⟩ := hm
  refine xr_get (ci := 13) C 17 e96 f96 rfl inX12 (by decide) wd_667 dX12_toHost_226 ?_
  refine xr_iconst (v := 1) C dX12_toHost_229 rfl ?_
  obtain ⟨a99, rfl, hm⟩ := hm
  obtain ⟨N98, f98, y100, e98, b98, v98, hm⟩ := hm
  refine xr_lald C 1 rfl e98 b98 v98 dX12_toHost_230 ?_
  obtain ⟨a102, rfl, hm⟩ := hm
  obtain ⟨N101, f101, e101, b101, h103, v101, hm⟩ := hm
  refine xr_last C 1 rfl e101 b101 v101 dX12_toHost_231 ?_
  refine xr_aload_n (r := (some a0)) C dX12_toHost_232 1 rfl ?_
  obtain ⟨fs104, r105, e104, f104, hm⟩ := hm
  refine xr_get (ci := 13) C 18 e104 f104 rfl inX12 (by decide) wd_668 dX12_toHost_233 ?_
  refine xr_iconst (v := 2) C dX12_toHost_236 rfl ?_
  refine xr_aload_n (r := (some a0)) C dX12_toHost_237 1 rfl ?_
  obtain ⟨fs106, r107, e106, f106, hm⟩ := hm
  refine xr_get (ci := 13) C 17 e106 f106 rfl inX12 (by decide) wd_667 dX12_toHost_238 ?_
  refine xr_iconst (v := 2) C dX12_toHost_241 rfl ?_
  obtain ⟨a109, rfl, hm⟩ := hm
  obtain ⟨N108, f108, y110, e108, b108, v108, hm⟩ := hm
  refine xr_lald C 1 rfl e108 b108 v108 dX12_toHost_242 ?_
  obtain ⟨a112, rfl, hm⟩ := hm
  obtain ⟨N111, f111, e111, b111, h113, v111, hm⟩ := hm
  refine xr_last C 1 rfl e111 b111 v111 dX12_toHost_243 ?_
  refine xr_aload_n (r := (some a0)) C dX12_toHost_244 1 rfl ?_
  refine xr_ldc2 (v := 8) C dX12_toHost_245 wd_755 ?_
  obtain ⟨⟨fs114, e114⟩, hm⟩ := hm
  refine xr_cVv (n := 1) (As := [.long 8]) (st := []) C (c_X12_begin a0 8 h113 0 0 hm) e114 rfl wd_751 wd_753 wd_754 wd_712 wd_752 (by decide +kernel) rfl (by rw [hR.1, hR.2]; decide) (Nat.zero_add _).symm (Nat.zero_add _).symm rfl (Nat.le_of_ble_eq_true rfl) dX12_toHost_248 (fun h116 hn => ?_)
  clear hm
  have hm := hn
  clear hn
  refine xr_aload_n (r := (some a0)) C dX12_toHost_251 1 rfl ?_
  refine xr_aload_n (r := (some a0)) C dX12_toHost_252 1 rfl ?_
  obtain ⟨fs117, r118, e117, f117, hm⟩ := hm
  refine xr_get (ci := 13) C 17 e117 f117 rfl inX12 (by decide) wd_667 dX12_toHost_253 ?_
  refine xr_iconst (v := 1) C dX12_toHost_256 rfl ?_
  obtain ⟨a120, rfl, hm⟩ := hm
  obtain ⟨N119, f119, y121, e119, b119, v119, hm⟩ := hm
  refine xr_lald C 1 rfl e119 b119 v119 dX12_toHost_257 ?_
  obtain ⟨⟨fs122, e122⟩, hm⟩ := hm
  refine xr_cVv (n := 1) (As := [.long y121]) (st := []) C (c_X12_more a0 y121 h116 0 0 hm) e122 rfl wd_747 wd_749 wd_750 wd_712 wd_748 (by decide +kernel) rfl (by rw [hR.1, hR.2]; decide) (Nat.zero_add _).symm (Nat.zero_add _).symm rfl (Nat.le_of_ble_eq_true rfl) dX12_toHost_258 (fun h124 hn => ?_)
  clear hm
  have hm := hn
  clear hn
  refine xr_aload_n (r := (some a0)) C dX12_toHost_261 1 rfl ?_
  refine xr_aload_n (r := (some a0)) C dX12_toHost_262 1 rfl ?_
  obtain ⟨fs125, r126, e125, f125, hm⟩ := hm
  refine xr_get (ci := 13) C 17 e125 f125 rfl inX12 (by decide) wd_667 dX12_toHost_263 ?_
  refine xr_iconst (v := 2) C dX12_toHost_266 rfl ?_
  obtain ⟨a128, rfl, hm⟩ := hm
  obtain ⟨N127, f127, y129, e127, b127, v127, hm⟩ := hm
  refine xr_lald C 1 rfl e127 b127 v127 dX12_toHost_267 ?_
  obtain ⟨⟨fs130, e130⟩, hm⟩ := hm
  refine xr_cVv (n := 1) (As := [.long y129]) (st := []) C (c_X12_more a0 y129 h124 0 0 hm) e130 rfl wd_747 wd_749 wd_750 wd_712 wd_748 (by decide +kernel) rfl (by rw [hR.1, hR.2]; decide) (Nat.zero_add _).symm (Nat.zero_add _).symm rfl (Nat.le_of_ble_eq_true rfl) dX12_toHost_268 (fun h132 hn => ?_)
  clear hm
  have hm := hn
  clear hn
  refine xr_aload_n (r := (some a0)) C dX12_toHost_271 1 rfl ?_
  refine xr_lload C dX12_toHost_272 0 rfl ?_
  obtain ⟨⟨fs133, e133⟩, hm⟩ := hm
  refine xr_cVv (n := 1) (As := [.long s0]) (st := []) C (c_X12_more a0 s0 h132 0 0 hm) e133 rfl wd_747 wd_749 wd_750 wd_712 wd_748 (by decide +kernel) rfl (by rw [hR.1, hR.2]; decide) (Nat.zero_add _).symm (Nat.zero_add _).symm rfl (Nat.le_of_ble_eq_true rfl) dX12_toHost_274 (fun h135 hn => ?_)
  clear hm
  have hm := hn
  clear hn
  refine xr_aload_n (r := (some a0)) C dX12_toHost_277 1 rfl ?_
  obtain ⟨fs136, r137, e136, f136, hm⟩ := hm
  refine xr_get (ci := 13) C 18 e136 f136 rfl inX12 (by decide) wd_668 dX12_toHost_278 ?_
  refine xr_bipush (v := 8) C dX12_toHost_281 rfl ?_
  refine xr_aload_n (r := (some a0)) C dX12_toHost_283 1 rfl ?_
  refine xr_iconst (v := 2) C dX12_toHost_284 rfl ?_
  refine xr_aload_n (r := (some a0)) C dX12_toHost_285 1 rfl ?_
  obtain ⟨fs138, r139, e138, f138, hm⟩ := hm
  refine xr_get (ci := 13) C 17 e138 f138 rfl inX12 (by decide) wd_667 dX12_toHost_286 ?_
  refine xr_iconst (v := 1) C dX12_toHost_289 rfl ?_
  obtain ⟨a141, rfl, hm⟩ := hm
  obtain ⟨N140, f140, y142, e140, b140, v140, hm⟩ := hm
  refine xr_lald C 1 rfl e140 b140 v140 dX12_toHost_290 ?_
  obtain ⟨⟨fs143, e143⟩, hm⟩ := hm
  refine xr_cVi (n := 2) (As := [.int 2, .long y142]) (st := [.int 8, va_rf r137]) C (c_X12_seal a0 2 y142 h135 0 0 hm) e143 rfl wd_743 wd_745 wd_746 wd_712 wd_744 (by decide +kernel) rfl (by rw [hR.1, hR.2]; decide) (Nat.zero_add _).symm (Nat.zero_add _).symm rfl (by simp [xv_cat, xv_ci, xv_cl, xv_cr, xv_cn]) dX12_toHost_291 (fun x144 h145 hn => ?_)
  clear hm
  have hm := hn
  clear hn
  refine xr_i2l (v := x144.toInt64) C dX12_toHost_294 rfl ?_
  obtain ⟨a147, rfl, hm⟩ := hm
  obtain ⟨N146, f146, e146, b146, h148, v146, hm⟩ := hm
  refine xr_last C 1 rfl e146 b146 v146 dX12_toHost_295 ?_
  refine xr_aload_n (r := (some a0)) C dX12_toHost_296 1 rfl ?_
  refine xr_aload_n (r := (some a0)) C dX12_toHost_297 1 rfl ?_
  obtain ⟨fs149, r150, e149, f149, hm⟩ := hm
  refine xr_get (ci := 13) C 17 e149 f149 rfl inX12 (by decide) wd_667 dX12_toHost_298 ?_
  refine xr_iconst (v := 3) C dX12_toHost_301 rfl ?_
  obtain ⟨a152, rfl, hm⟩ := hm
  obtain ⟨N151, f151, y153, e151, b151, v151, hm⟩ := hm
  refine xr_lald C 1 rfl e151 b151 v151 dX12_toHost_302 ?_
  obtain ⟨⟨fs154, e154⟩, hm⟩ := hm
  refine xr_cVv (n := 1) (As := [.long y153]) (st := []) C (c_X12_more a0 y153 h148 0 0 hm) e154 rfl wd_747 wd_749 wd_750 wd_712 wd_748 (by decide +kernel) rfl (by rw [hR.1, hR.2]; decide) (Nat.zero_add _).symm (Nat.zero_add _).symm rfl (Nat.le_of_ble_eq_true rfl) dX12_toHost_303 (fun h156 hn => ?_)
  clear hm
  have hm := hn
  clear hn
  refine xr_aload_n (r := (some a0)) C dX12_toHost_306 1 rfl ?_
  obtain ⟨fs157, r158, e157, f157, hm⟩ := hm
  refine xr_get (ci := 13) C 18 e157 f157 rfl inX12 (by decide) wd_668 dX12_toHost_307 ?_
  refine xr_bipush (v := 10) C dX12_toHost_310 rfl ?_
  refine xr_lload C dX12_toHost_312 0 rfl ?_
  obtain ⟨a160, rfl, hm⟩ := hm
  obtain ⟨N159, f159, e159, b159, h161, v159, hm⟩ := hm
  refine xr_last C 1 rfl e159 b159 v159 dX12_toHost_314 ?_
  refine xr_aload_n (r := (some a0)) C dX12_toHost_315 1 rfl ?_
  obtain ⟨fs162, r163, e162, f162, hm⟩ := hm
  refine xr_get (ci := 13) C 18 e162 f162 rfl inX12 (by decide) wd_668 dX12_toHost_316 ?_
  refine xr_bipush (v := 11) C dX12_toHost_319 rfl ?_
  refine xr_aload_n (r := (some a0)) C dX12_toHost_321 1 rfl ?_
  refine xr_iconst (v := 1) C dX12_toHost_322 rfl ?_
  refine xr_aload_n (r := (some a0)) C dX12_toHost_323 1 rfl ?_
  obtain ⟨fs164, r165, e164, f164, hm⟩ := hm
  refine xr_get (ci := 13) C 17 e164 f164 rfl inX12 (by decide) wd_667 dX12_toHost_324 ?_
  refine xr_iconst (v := 5) C dX12_toHost_327 rfl ?_
  obtain ⟨a167, rfl, hm⟩ := hm
  obtain ⟨N166, f166, y168, e166, b166, v166, hm⟩ := hm
  refine xr_lald C 1 rfl e166 b166 v166 dX12_toHost_328 ?_
  obtain ⟨⟨fs169, e169⟩, hm⟩ := hm
  refine xr_cVi (n := 2) (As := [.int 1, .long y168]) (st := [.int 11, va_rf r163]) C (c_X12_seal a0 1 y168 h161 0 0 hm) e169 rfl wd_743 wd_745 wd_746 wd_712 wd_744 (by decide +kernel) rfl (by rw [hR.1, hR.2]; decide) (Nat.zero_add _).symm (Nat.zero_add _).symm rfl (by simp [xv_cat, xv_ci, xv_cl, xv_cr, xv_cn]) dX12_toHost_329 (fun x170 h171 hn => ?_)
  clear hm
  have hm := hn
  clear hn
  refine xr_i2l (v := x170.toInt64) C dX12_toHost_332 rfl ?_
  obtain ⟨a173, rfl, hm⟩ := hm
  obtain ⟨N172, f172, e172, b172, h174, v172, hm⟩ := hm
  refine xr_last C 1 rfl e172 b172 v172 dX12_toHost_333 ?_
  refine xr_aload_n (r := (some a0)) C dX12_toHost_334 1 rfl ?_
  refine xr_bipush (v := 8) C dX12_toHost_335 rfl ?_
  refine xr_iconst (v := 2) C dX12_toHost_337 rfl ?_
  refine xr_iconst (v := 0) C dX12_toHost_338 rfl ?_
  refine xr_iconst (v := 1) C dX12_toHost_339 rfl ?_
  refine xr_aload_n (r := (some a0)) C dX12_toHost_340 1 rfl ?_
  obtain ⟨fs175, r176, e175, f175, hm⟩ := hm
  refine xr_get (ci := 13) C 17 e175 f175 rfl inX12 (by decide) wd_667 dX12_toHost_341 ?_
  refine xr_iconst (v := 5) C dX12_toHost_344 rfl ?_
  obtain ⟨a178, rfl, hm⟩ := hm
  obtain ⟨N177, f177, y179, e177, b177, v177, hm⟩ := hm
  refine xr_lald C 1 rfl e177 b177 v177 dX12_toHost_345 ?_
  refine xr_l2i (v := y179.toInt32) C dX12_toHost_346 rfl ?_
  obtain ⟨⟨fs180, e180⟩, hm⟩ := hm
  refine xr_cVi (n := 5) (As := [.int 8, .int 2, .int 0, .int 1, .int y179.toInt32]) (st := []) C (c_X12_send a0 8 2 0 1 y179.toInt32 h174 0 0 hm) e180 rfl wd_728 wd_730 wd_731 wd_712 wd_729 (by decide +kernel) rfl (by rw [hR.1, hR.2]; decide) (Nat.zero_add _).symm (Nat.zero_add _).symm rfl (Nat.le_of_ble_eq_true rfl) dX12_toHost_347 (fun x181 h182 hn => ?_)
  clear hm
  have hm := hn
  clear hn
  refine xr_pop C dX12_toHost_350 rfl ?_
  refine xr_iconst (v := 1) C dX12_toHost_351 rfl ?_
  exact xr_zreturn C hr hlk (Or.inr rfl) hm dX12_toHost_352
set_option maxRecDepth 100000 in
set_option maxHeartbeats 4000000 in
theorem k_X12_toHost_L209 {p : Program} {l : Launch} {e : Env} {R : Room} {s : State} {m : MethodId} {args : Array Value} {below : List Frame} {meth : Method} {c : Code} {D : va_G} {E : Ev} {A : Nat → Prop} {KC KS : Nat} (C : XC p R s m args c D E A 6 RX12 cX12_toHost KC KS) (hr : meth.sig.returnType = (some .boolean)) (hlk : meth.locks = false) (hnm : meth.name = "toHost") (hR : R.frames = 3 ∧ R.locals = 74) {Q : Int32 → Hp → Prop} : ∀ (a0 : Nat) (xv3 : Int32) (h : Hp) (kc ks : Nat), m_X12_toHost_L209 E a0 xv3 h kc ks Q → XW p l e R s m args below meth c (MQ below (va_Qi Q (XPost D A) A) args s KC KS A) D A KC KS 6 h kc ks [(0, .ref a0), (3, .int xv3)] 209 [] := by
  intro a0 xv3 h kc ks hm
  refine xr_iload_n C dX12_toHost_209 1 rfl ?_
  refine xr_if_eq (tgt := 217) C dX12_toHost_210 (by decide) (fun q89 => ?_) (fun q89 => ?_)
  · replace hm := hm.1 q89
    refine xr_lconst (v := 0) C dX12_toHost_217 rfl ?_
    refine xr_sub [0] rfl ?_
    exact k_X12_toHost_L218 C hr hlk hnm hR a0 0 _ _ _ hm
  · replace hm := hm.2 q89
    refine xr_lconst (v := 1) C dX12_toHost_213 rfl ?_
    refine xr_goto (tgt := 218) C dX12_toHost_214 (by decide) ?_
    refine xr_sub [0] rfl ?_
    exact k_X12_toHost_L218 C hr hlk hnm hR a0 1 _ _ _ hm
set_option maxRecDepth 100000 in
set_option maxHeartbeats 4000000 in
theorem k_X12_toHost_L199 {p : Program} {l : Launch} {e : Env} {R : Room} {s : State} {m : MethodId} {args : Array Value} {below : List Frame} {meth : Method} {c : Code} {D : va_G} {E : Ev} {A : Nat → Prop} {KC KS : Nat} (C : XC p R s m args c D E A 6 RX12 cX12_toHost KC KS) (hr : meth.sig.returnType = (some .boolean)) (hlk : meth.locks = false) (hnm : meth.name = "toHost") (hR : R.frames = 3 ∧ R.locals = 74) {Q : Int32 → Hp → Prop} : ∀ (a0 : Nat) (s0 : Int32) (h : Hp) (kc ks : Nat), m_X12_toHost_L199 E a0 s0 h kc ks Q → XW p l e R s m args below meth c (MQ below (va_Qi Q (XPost D A) A) args s KC KS A) D A KC KS 6 h kc ks [(0, .ref a0)] 199 [.int s0] := by
  intro a0 s0 h kc ks hm
  refine xr_istore_n (lv' := [(3, .int s0), (0, .ref a0)]) C dX12_toHost_199 (by decide) rfl ?_
  refine xr_iload_n C dX12_toHost_200 0 rfl ?_
  refine xr_if_eq (tgt := 209) C dX12_toHost_201 (by decide) (fun q90 => ?_) (fun q90 => ?_)
  · replace hm := hm.1 q90
    refine xr_sub [1, 0] rfl ?_
    exact k_X12_toHost_L209 C hr hlk hnm hR a0 s0 _ _ _ hm
  · replace hm := hm.2 q90
    refine xr_aload_n (r := (some a0)) C dX12_toHost_204 1 rfl ?_
    refine xr_iconst (v := 1) C dX12_toHost_205 rfl ?_
    obtain ⟨⟨fs91, e91⟩, hm⟩ := hm
    refine xr_cVv (n := 1) (As := [.int 1]) (st := []) C (c_X12_debit a0 1 h 0 0 hm) e91 rfl wd_819 wd_821 wd_822 wd_712 wd_820 (by decide +kernel) rfl (by rw [hR.1, hR.2]; decide) (Nat.zero_add _).symm (Nat.zero_add _).symm rfl (Nat.le_of_ble_eq_true rfl) dX12_toHost_206 (fun h93 hn => ?_)
    clear hm
    have hm := hn
    clear hn
    refine xr_sub [1, 0] rfl ?_
    exact k_X12_toHost_L209 C hr hlk hnm hR a0 s0 _ _ _ hm
set_option maxRecDepth 100000 in
set_option maxHeartbeats 4000000 in
theorem k_X12_toHost_L147 {p : Program} {l : Launch} {e : Env} {R : Room} {s : State} {m : MethodId} {args : Array Value} {below : List Frame} {meth : Method} {c : Code} {D : va_G} {E : Ev} {A : Nat → Prop} {KC KS : Nat} (C : XC p R s m args c D E A 6 RX12 cX12_toHost KC KS) (hr : meth.sig.returnType = (some .boolean)) (hlk : meth.locks = false) (hnm : meth.name = "toHost") (hR : R.frames = 3 ∧ R.locals = 74) {Q : Int32 → Hp → Prop} : ∀ (a0 : Nat) (s0 : Int32) (h : Hp) (kc ks : Nat), m_X12_toHost_L147 E a0 s0 h kc ks Q → XW p l e R s m args below meth c (MQ below (va_Qi Q (XPost D A) A) args s KC KS A) D A KC KS 6 h kc ks [(0, .ref a0)] 147 [.int s0] := by
  intro a0 s0 h kc ks hm
  refine xr_istore_n (lv' := [(2, .int s0), (0, .ref a0)]) C dX12_toHost_147 (by decide) rfl ?_
  refine xr_iconst (v := 0) C dX12_toHost_148 rfl ?_
  refine xr_istore_n (lv' := [(3, .int 0), (2, .int s0), (0, .ref a0)]) C dX12_toHost_149 (by decide) rfl ?_
  refine xr_iload_n C dX12_toHost_150 1 rfl ?_
  refine xr_if_eq (tgt := 209) C dX12_toHost_151 (by decide) (fun q32 => ?_) (fun q32 => ?_)
  · replace hm := hm.1 q32
    refine xr_sub [2, 0] rfl ?_
    exact k_X12_toHost_L209 C hr hlk hnm hR a0 0 _ _ _ hm
  · replace hm := hm.2 q32
    refine xr_aload_n (r := (some a0)) C dX12_toHost_154 2 rfl ?_
    obtain ⟨fs33, r34, e33, f33, hm⟩ := hm
    refine xr_get (ci := 13) C 17 e33 f33 rfl inX12 (by decide) wd_667 dX12_toHost_155 ?_
    refine xr_iconst (v := 1) C dX12_toHost_158 rfl ?_
    obtain ⟨a36, rfl, hm⟩ := hm
    obtain ⟨N35, f35, y37, e35, b35, v35, hm⟩ := hm
    refine xr_lald C 1 rfl e35 b35 v35 dX12_toHost_159 ?_
    refine xr_l2i (v := y37.toInt32) C dX12_toHost_160 rfl ?_
    refine xr_istore (lv' := [(4, .int y37.toInt32), (3, .int 0), (2, .int s0), (0, .ref a0)]) C dX12_toHost_161 (by decide) rfl ?_
    refine xr_aload_n (r := (some a0)) C dX12_toHost_163 3 rfl ?_
    obtain ⟨fs38, r39, e38, f38, hm⟩ := hm
    refine xr_get (ci := 13) C 26 e38 f38 rfl inX12 (by decide) wd_674 dX12_toHost_164 ?_
    refine xr_iload C dX12_toHost_167 0 rfl ?_
    refine xr_aload_n (r := (some a0)) C dX12_toHost_169 3 rfl ?_
    obtain ⟨fs40, r41, e40, f40, hm⟩ := hm
    refine xr_get (ci := 13) C 17 e40 f40 rfl inX12 (by decide) wd_667 dX12_toHost_170 ?_
    refine xr_iconst (v := 2) C dX12_toHost_173 rfl ?_
    obtain ⟨a43, rfl, hm⟩ := hm
    obtain ⟨N42, f42, y44, e42, b42, v42, hm⟩ := hm
    refine xr_lald C 1 rfl e42 b42 v42 dX12_toHost_174 ?_
    refine xr_l2i (v := y44.toInt32) C dX12_toHost_175 rfl ?_
    obtain ⟨a46, rfl, hm⟩ := hm
    obtain ⟨N45, f45, e45, b45, h47, v45, hm⟩ := hm
    refine xr_iast C 0 rfl e45 b45 v45 dX12_toHost_176 ?_
    refine xr_aload_n (r := (some a0)) C dX12_toHost_177 3 rfl ?_
    obtain ⟨fs48, r49, e48, f48, hm⟩ := hm
    refine xr_get (ci := 13) C 25 e48 f48 rfl inX12 (by decide) wd_673 dX12_toHost_178 ?_
    refine xr_iload C dX12_toHost_181 0 rfl ?_
    obtain ⟨a51, rfl, hm⟩ := hm
    obtain ⟨N50, f50, y52, e50, b50, v50, hm⟩ := hm
    refine xr_lald C 1 rfl e50 b50 v50 dX12_toHost_183 ?_
    refine xr_aload_n (r := (some a0)) C dX12_toHost_184 3 rfl ?_
    obtain ⟨fs53, r54, e53, f53, hm⟩ := hm
    refine xr_get (ci := 13) C 17 e53 f53 rfl inX12 (by decide) wd_667 dX12_toHost_185 ?_
    refine xr_iconst (v := 3) C dX12_toHost_188 rfl ?_
    obtain ⟨a56, rfl, hm⟩ := hm
    obtain ⟨N55, f55, y57, e55, b55, v55, hm⟩ := hm
    refine xr_lald C 1 rfl e55 b55 v55 dX12_toHost_189 ?_
    refine xr_lcmp C dX12_toHost_190 ?_
    refine xr_if_lt (tgt := 198) C dX12_toHost_191 (by decide) (fun q58 => ?_) (fun q58 => ?_)
    · replace hm := hm.1 q58
      refine xr_iconst (v := 0) C dX12_toHost_198 rfl ?_
      refine xr_sub [3] rfl ?_
      exact k_X12_toHost_L199 C hr hlk hnm hR a0 0 _ _ _ hm
    · replace hm := hm.2 q58
      refine xr_iconst (v := 1) C dX12_toHost_194 rfl ?_
      refine xr_goto (tgt := 199) C dX12_toHost_195 (by decide) ?_
      refine xr_sub [3] rfl ?_
      exact k_X12_toHost_L199 C hr hlk hnm hR a0 1 _ _ _ hm
set_option maxRecDepth 100000 in
set_option maxHeartbeats 4000000 in
theorem k_X12_toHost_L146 {p : Program} {l : Launch} {e : Env} {R : Room} {s : State} {m : MethodId} {args : Array Value} {below : List Frame} {meth : Method} {c : Code} {D : va_G} {E : Ev} {A : Nat → Prop} {KC KS : Nat} (C : XC p R s m args c D E A 6 RX12 cX12_toHost KC KS) (hr : meth.sig.returnType = (some .boolean)) (hlk : meth.locks = false) (hnm : meth.name = "toHost") (hR : R.frames = 3 ∧ R.locals = 74) {Q : Int32 → Hp → Prop} : ∀ (a0 : Nat) (h : Hp) (kc ks : Nat), m_X12_toHost_L146 E a0 h kc ks Q → XW p l e R s m args below meth c (MQ below (va_Qi Q (XPost D A) A) args s KC KS A) D A KC KS 6 h kc ks [(0, .ref a0)] 146 [] := by
  intro a0 h kc ks hm
  refine xr_iconst (v := 0) C dX12_toHost_146 rfl ?_
  exact k_X12_toHost_L147 C hr hlk hnm hR a0 0 _ _ _ hm
set_option maxRecDepth 100000 in
set_option maxHeartbeats 4000000 in
theorem k_X12_toHost_L12 {p : Program} {l : Launch} {e : Env} {R : Room} {s : State} {m : MethodId} {args : Array Value} {below : List Frame} {meth : Method} {c : Code} {D : va_G} {E : Ev} {A : Nat → Prop} {KC KS : Nat} (C : XC p R s m args c D E A 6 RX12 cX12_toHost KC KS) (hr : meth.sig.returnType = (some .boolean)) (hlk : meth.locks = false) (hnm : meth.name = "toHost") (hR : R.frames = 3 ∧ R.locals = 74) {Q : Int32 → Hp → Prop} : ∀ (a0 : Nat) (xv1 : Int32) (h : Hp) (kc ks : Nat), m_X12_toHost_L12 E a0 xv1 h kc ks Q → XW p l e R s m args below meth c (MQ below (va_Qi Q (XPost D A) A) args s KC KS A) D A KC KS 6 h kc ks [(0, .ref a0), (1, .int xv1)] 12 [] := by
  intro a0 xv1 h kc ks hm
  refine xr_aload_n (r := (some a0)) C dX12_toHost_12 0 rfl ?_
  refine xr_iload_n C dX12_toHost_13 1 rfl ?_
  obtain ⟨⟨fs3, e3⟩, hm⟩ := hm
  refine xr_cVi (n := 1) (As := [.int xv1]) (st := []) C (c_X12_isSigned a0 xv1 h 0 0 hm) e3 rfl wd_815 wd_817 wd_818 wd_712 wd_816 (by decide +kernel) rfl (by rw [hR.1, hR.2]; decide) (Nat.zero_add _).symm (Nat.zero_add _).symm rfl (Nat.le_of_ble_eq_true rfl) dX12_toHost_14 (fun x4 h5 hn => ?_)
  clear hm
  have hm := hn
  clear hn
  refine xr_if_ne (tgt := 22) C dX12_toHost_17 (by decide) (fun q6 => ?_) (fun q6 => ?_)
  · replace hm := hm.2 q6
    refine xr_iload_n C dX12_toHost_22 1 rfl ?_
    refine xr_bipush (v := 11) C dX12_toHost_23 rfl ?_
    refine xr_icmp_ne (tgt := 111) C dX12_toHost_25 (by decide) (fun q7 => ?_) (fun q7 => ?_)
    · replace hm := hm.2 q7
      refine xr_aload_n (r := (some a0)) C dX12_toHost_111 0 rfl ?_
      refine xr_iconst (v := 1) C dX12_toHost_112 rfl ?_
      obtain ⟨⟨fs8, e8⟩, hm⟩ := hm
      refine xr_cVi (n := 1) (As := [.int 1]) (st := []) C (c_X12_isAnswer a0 1 h5 0 0 hm) e8 rfl wd_811 wd_813 wd_814 wd_712 wd_812 (by decide +kernel) rfl (by rw [hR.1, hR.2]; decide) (Nat.zero_add _).symm (Nat.zero_add _).symm rfl (Nat.le_of_ble_eq_true rfl) dX12_toHost_113 (fun x9 h10 hn => ?_)
      clear hm
      have hm := hn
      clear hn
      refine xr_if_eq (tgt := 146) C dX12_toHost_116 (by decide) (fun q11 => ?_) (fun q11 => ?_)
      · replace hm := hm.1 q11
        refine xr_sub [0] rfl ?_
        exact k_X12_toHost_L146 C hr hlk hnm hR a0 _ _ _ hm
      · replace hm := hm.2 q11
        refine xr_aload_n (r := (some a0)) C dX12_toHost_119 0 rfl ?_
        obtain ⟨fs12, r13, e12, f12, hm⟩ := hm
        refine xr_get (ci := 13) C 17 e12 f12 rfl inX12 (by decide) wd_667 dX12_toHost_120 ?_
        refine xr_iconst (v := 2) C dX12_toHost_123 rfl ?_
        obtain ⟨a15, rfl, hm⟩ := hm
        obtain ⟨N14, f14, y16, e14, b14, v14, hm⟩ := hm
        refine xr_lald C 1 rfl e14 b14 v14 dX12_toHost_124 ?_
        refine xr_aload_n (r := (some a0)) C dX12_toHost_125 0 rfl ?_
        obtain ⟨fs17, r18, e17, f17, hm⟩ := hm
        refine xr_get (ci := 13) C 26 e17 f17 rfl inX12 (by decide) wd_674 dX12_toHost_126 ?_
        refine xr_aload_n (r := (some a0)) C dX12_toHost_129 0 rfl ?_
        obtain ⟨fs19, r20, e19, f19, hm⟩ := hm
        refine xr_get (ci := 13) C 17 e19 f19 rfl inX12 (by decide) wd_667 dX12_toHost_130 ?_
        refine xr_iconst (v := 1) C dX12_toHost_133 rfl ?_
        obtain ⟨a22, rfl, hm⟩ := hm
        obtain ⟨N21, f21, y23, e21, b21, v21, hm⟩ := hm
        refine xr_lald C 1 rfl e21 b21 v21 dX12_toHost_134 ?_
        refine xr_l2i (v := y23.toInt32) C dX12_toHost_135 rfl ?_
        obtain ⟨a25, rfl, hm⟩ := hm
        obtain ⟨N24, f24, x26, e24, b24, v24, hm⟩ := hm
        refine xr_iald C 0 rfl e24 b24 v24 dX12_toHost_136 ?_
        refine xr_i2l (v := x26.toInt64) C dX12_toHost_137 rfl ?_
        refine xr_lcmp C dX12_toHost_138 ?_
        refine xr_if_le (tgt := 146) C dX12_toHost_139 (by decide) (fun q27 => ?_) (fun q27 => ?_)
        · replace hm := hm.1 q27
          refine xr_sub [0] rfl ?_
          exact k_X12_toHost_L146 C hr hlk hnm hR a0 _ _ _ hm
        · replace hm := hm.2 q27
          refine xr_iconst (v := 1) C dX12_toHost_142 rfl ?_
          refine xr_goto (tgt := 147) C dX12_toHost_143 (by decide) ?_
          refine xr_sub [0] rfl ?_
          exact k_X12_toHost_L147 C hr hlk hnm hR a0 1 _ _ _ hm
    · replace hm := hm.1 q7
      refine xr_aload_n (r := (some a0)) C dX12_toHost_28 0 rfl ?_
      refine xr_iconst (v := 2) C dX12_toHost_29 rfl ?_
      obtain ⟨⟨fs28, e28⟩, hm⟩ := hm
      refine xr_cVi (n := 1) (As := [.int 2]) (st := []) C (c_X12_isAnswer a0 2 h5 0 0 hm) e28 rfl wd_811 wd_813 wd_814 wd_712 wd_812 (by decide +kernel) rfl (by rw [hR.1, hR.2]; decide) (Nat.zero_add _).symm (Nat.zero_add _).symm rfl (Nat.le_of_ble_eq_true rfl) dX12_toHost_30 (fun x29 h30 hn => ?_)
      clear hm
      have hm := hn
      clear hn
      refine xr_istore_n (lv' := [(2, .int x29), (0, .ref a0), (1, .int xv1)]) C dX12_toHost_33 (by decide) rfl ?_
      refine xr_iconst (v := 0) C dX12_toHost_34 rfl ?_
      refine xr_istore_n (lv' := [(3, .int 0), (2, .int x29), (0, .ref a0), (1, .int xv1)]) C dX12_toHost_35 (by decide) rfl ?_
      obtain ⟨n31, hm⟩ := hm
      refine xr_sub [2, 1, 0] rfl ?_
      exact k_X12_toHost_L36 C hr hlk hnm hR n31 a0 x29 0 _ _ _ hm
  · replace hm := hm.1 q6
    refine xr_iconst (v := 0) C dX12_toHost_20 rfl ?_
    exact xr_zreturn C hr hlk (Or.inl rfl) hm dX12_toHost_21
set_option maxRecDepth 100000 in
set_option maxHeartbeats 4000000 in
theorem c_X12_toHost {l : Launch} {D : va_G} {E : Ev} (a0 : Nat) (xp1 : Int32) (h : Hp) (kc ks : Nat) {Q : Int32 → Hp → Prop} (hm : m_X12_toHost E a0 xp1 h kc ks Q) : XMet l yX12_toHost cX12_toHost 6 (some .boolean) 3 74 kc ks D E h [.ref a0, .int xp1] (fun A => va_Qi Q (XPost D A) A) := by
  refine xm_of (lv0 := [(0, .ref a0), (1, .int xp1)]) (by decide) (Nat.le_of_ble_eq_true rfl) rfl RX12 rfl (fun p e s m args below meth c A R hRm C hr hlk hnm => ?_)
  have hR : R.frames = 3 ∧ R.locals = 74 := by rw [hRm]; exact ⟨rfl, rfl⟩
  refine xr_iload_n C dX12_toHost_0 1 rfl ?_
  refine xr_bipush (v := 7) C dX12_toHost_1 rfl ?_
  refine xr_icmp_eq (tgt := 12) C dX12_toHost_3 (by decide) (fun q1 => ?_) (fun q1 => ?_)
  · replace hm := hm.1 q1
    exact k_X12_toHost_L12 C hr hlk hnm hR a0 xp1 _ _ _ hm
  · replace hm := hm.2 q1
    refine xr_iload_n C dX12_toHost_6 1 rfl ?_
    refine xr_bipush (v := 11) C dX12_toHost_7 rfl ?_
    refine xr_icmp_ne (tgt := 20) C dX12_toHost_9 (by decide) (fun q2 => ?_) (fun q2 => ?_)
    · replace hm := hm.2 q2
      refine xr_iconst (v := 0) C dX12_toHost_20 rfl ?_
      exact xr_zreturn C hr hlk (Or.inl rfl) hm dX12_toHost_21
    · replace hm := hm.1 q2
      exact k_X12_toHost_L12 C hr hlk hnm hR a0 xp1 _ _ _ hm
