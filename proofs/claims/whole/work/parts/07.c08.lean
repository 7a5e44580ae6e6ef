set_option maxRecDepth 100000 in
set_option maxHeartbeats 4000000 in
theorem k_X12_toCard_L170 {p : Program} {l : Launch} {e : Env} {R : Room} {s : State} {m : MethodId} {args : Array Value} {below : List Frame} {meth : Method} {c : Code} {D : va_G} {E : Ev} {A : Nat → Prop} {KC KS : Nat} (C : XC p R s m args c D E A 3 RX12 cX12_toCard KC KS) (hr : meth.sig.returnType = (some .boolean)) (hlk : meth.locks = false) (hnm : meth.name = "toCard") (hR : R.frames = 4 ∧ R.locals = 104) {Q : Int32 → Hp → Prop} : ∀ (a0 : Nat) (xv1 : Int32) (xv2 : Int32) (h : Hp) (kc ks : Nat), m_X12_toCard_L170 E a0 xv1 xv2 h kc ks Q → XW p l e R s m args below meth c (MQ below (va_Qi Q (XPost D A) A) args s KC KS A) D A KC KS 3 h kc ks [(0, .ref a0), (1, .int xv1), (2, .int xv2)] 170 [] := by
  intro a0 xv1 xv2 h kc ks hm
  refine xr_iload_n C dX12_toCard_170 2 rfl ?_
  refine xr_bipush (v := 9) C dX12_toCard_171 rfl ?_
  refine xr_icmp_ne (tgt := 193) C dX12_toCard_173 (by decide) (fun q97 => ?_) (fun q97 => ?_)
  · replace hm := hm.2 q97
    refine xr_iconst (v := 0) C dX12_toCard_193 rfl ?_
    exact xr_zreturn C hr hlk (Or.inl rfl) hm dX12_toCard_194
  · replace hm := hm.1 q97
    refine xr_aload_n (r := (some a0)) C dX12_toCard_176 0 rfl ?_
    obtain ⟨fs98, r99, e98, f98, hm⟩ := hm
    refine xr_get (ci := 13) C 30 e98 f98 rfl inX12 (by decide) wd_678 dX12_toCard_177 ?_
    refine xr_iload_n C dX12_toCard_180 1 rfl ?_
    obtain ⟨a101, rfl, hm⟩ := hm
    obtain ⟨N100, f100, x102, e100, b100, v100, hm⟩ := hm
    refine xr_iald C 0 rfl e100 b100 v100 dX12_toCard_181 ?_
    refine xr_iconst (v := 2) C dX12_toCard_182 rfl ?_
    refine xr_icmp_ne (tgt := 193) C dX12_toCard_183 (by decide) (fun q103 => ?_) (fun q103 => ?_)
    · replace hm := hm.2 q103
      refine xr_iconst (v := 0) C dX12_toCard_193 rfl ?_
      exact xr_zreturn C hr hlk (Or.inl rfl) hm dX12_toCard_194
    · replace hm := hm.1 q103
      refine xr_aload_n (r := (some a0)) C dX12_toCard_186 0 rfl ?_
      refine xr_iload_n C dX12_toCard_187 1 rfl ?_
      obtain ⟨⟨fs104, e104⟩, hm⟩ := hm
      refine xr_cVv (n := 1) (As := [.int xv1]) (st := []) C (c_X12_finish a0 xv1 h 0 0 hm) e104 rfl wd_770 wd_772 wd_773 wd_712 wd_771 (by decide +kernel) rfl (by rw [hR.1, hR.2]; decide) (Nat.zero_add _).symm (Nat.zero_add _).symm rfl (Nat.le_of_ble_eq_true rfl) dX12_toCard_188 (fun h106 hn => ?_)
      clear hm
      have hm := hn
      clear hn
      refine xr_iconst (v := 1) C dX12_toCard_191 rfl ?_
      exact xr_zreturn C hr hlk (Or.inr rfl) hm dX12_toCard_192
set_option maxRecDepth 100000 in
set_option maxHeartbeats 4000000 in
theorem k_X12_toCard_L148 {p : Program} {l : Launch} {e : Env} {R : Room} {s : State} {m : MethodId} {args : Array Value} {below : List Frame} {meth : Method} {c : Code} {D : va_G} {E : Ev} {A : Nat → Prop} {KC KS : Nat} (C : XC p R s m args c D E A 3 RX12 cX12_toCard KC KS) (hr : meth.sig.returnType = (some .boolean)) (hlk : meth.locks = false) (hnm : meth.name = "toCard") (hR : R.frames = 4 ∧ R.locals = 104) {Q : Int32 → Hp → Prop} : ∀ (a0 : Nat) (xv1 : Int32) (xv2 : Int32) (h : Hp) (kc ks : Nat), m_X12_toCard_L148 E a0 xv1 xv2 h kc ks Q → XW p l e R s m args below meth c (MQ below (va_Qi Q (XPost D A) A) args s KC KS A) D A KC KS 3 h kc ks [(0, .ref a0), (1, .int xv1), (2, .int xv2)] 148 [] := by
  intro a0 xv1 xv2 h kc ks hm
  refine xr_iload_n C dX12_toCard_148 2 rfl ?_
  refine xr_iconst (v := 5) C dX12_toCard_149 rfl ?_
  refine xr_icmp_ne (tgt := 170) C dX12_toCard_150 (by decide) (fun q87 => ?_) (fun q87 => ?_)
  · replace hm := hm.2 q87
    exact k_X12_toCard_L170 C hr hlk hnm hR a0 xv1 xv2 _ _ _ hm
  · replace hm := hm.1 q87
    refine xr_aload_n (r := (some a0)) C dX12_toCard_153 0 rfl ?_
    obtain ⟨fs88, r89, e88, f88, hm⟩ := hm
    refine xr_get (ci := 13) C 30 e88 f88 rfl inX12 (by decide) wd_678 dX12_toCard_154 ?_
    refine xr_iload_n C dX12_toCard_157 1 rfl ?_
    obtain ⟨a91, rfl, hm⟩ := hm
    obtain ⟨N90, f90, x92, e90, b90, v90, hm⟩ := hm
    refine xr_iald C 0 rfl e90 b90 v90 dX12_toCard_158 ?_
    refine xr_iconst (v := 1) C dX12_toCard_159 rfl ?_
    refine xr_icmp_ne (tgt := 170) C dX12_toCard_160 (by decide) (fun q93 => ?_) (fun q93 => ?_)
    · replace hm := hm.2 q93
      exact k_X12_toCard_L170 C hr hlk hnm hR a0 xv1 xv2 _ _ _ hm
    · replace hm := hm.1 q93
      refine xr_aload_n (r := (some a0)) C dX12_toCard_163 0 rfl ?_
      refine xr_iload_n C dX12_toCard_164 1 rfl ?_
      obtain ⟨⟨fs94, e94⟩, hm⟩ := hm
      refine xr_cVv (n := 1) (As := [.int xv1]) (st := []) C (c_X12_answer a0 xv1 h 0 0 hm) e94 rfl wd_766 wd_768 wd_769 wd_712 wd_767 (by decide +kernel) rfl (by rw [hR.1, hR.2]; decide) (Nat.zero_add _).symm (Nat.zero_add _).symm rfl (Nat.le_of_ble_eq_true rfl) dX12_toCard_165 (fun h96 hn => ?_)
      clear hm
      have hm := hn
      clear hn
      refine xr_iconst (v := 1) C dX12_toCard_168 rfl ?_
      exact xr_zreturn C hr hlk (Or.inr rfl) hm dX12_toCard_169
set_option maxRecDepth 100000 in
set_option maxHeartbeats 4000000 in
theorem k_X12_toCard_L126 {p : Program} {l : Launch} {e : Env} {R : Room} {s : State} {m : MethodId} {args : Array Value} {below : List Frame} {meth : Method} {c : Code} {D : va_G} {E : Ev} {A : Nat → Prop} {KC KS : Nat} (C : XC p R s m args c D E A 3 RX12 cX12_toCard KC KS) (hr : meth.sig.returnType = (some .boolean)) (hlk : meth.locks = false) (hnm : meth.name = "toCard") (hR : R.frames = 4 ∧ R.locals = 104) {Q : Int32 → Hp → Prop} : ∀ (a0 : Nat) (xv1 : Int32) (xv2 : Int32) (h : Hp) (kc ks : Nat), m_X12_toCard_L126 E a0 xv1 xv2 h kc ks Q → XW p l e R s m args below meth c (MQ below (va_Qi Q (XPost D A) A) args s KC KS A) D A KC KS 3 h kc ks [(0, .ref a0), (1, .int xv1), (2, .int xv2)] 126 [] := by
  intro a0 xv1 xv2 h kc ks hm
  refine xr_iload_n C dX12_toCard_126 2 rfl ?_
  refine xr_iconst (v := 3) C dX12_toCard_127 rfl ?_
  refine xr_icmp_ne (tgt := 148) C dX12_toCard_128 (by decide) (fun q77 => ?_) (fun q77 => ?_)
  · replace hm := hm.2 q77
    exact k_X12_toCard_L148 C hr hlk hnm hR a0 xv1 xv2 _ _ _ hm
  · replace hm := hm.1 q77
    refine xr_aload_n (r := (some a0)) C dX12_toCard_131 0 rfl ?_
    obtain ⟨fs78, r79, e78, f78, hm⟩ := hm
    refine xr_get (ci := 13) C 30 e78 f78 rfl inX12 (by decide) wd_678 dX12_toCard_132 ?_
    refine xr_iload_n C dX12_toCard_135 1 rfl ?_
    obtain ⟨a81, rfl, hm⟩ := hm
    obtain ⟨N80, f80, x82, e80, b80, v80, hm⟩ := hm
    refine xr_iald C 0 rfl e80 b80 v80 dX12_toCard_136 ?_
    refine xr_iconst (v := 1) C dX12_toCard_137 rfl ?_
    refine xr_icmp_ne (tgt := 148) C dX12_toCard_138 (by decide) (fun q83 => ?_) (fun q83 => ?_)
    · replace hm := hm.2 q83
      exact k_X12_toCard_L148 C hr hlk hnm hR a0 xv1 xv2 _ _ _ hm
    · replace hm := hm.1 q83
      refine xr_aload_n (r := (some a0)) C dX12_toCard_141 0 rfl ?_
      refine xr_iload_n C dX12_toCard_142 1 rfl ?_
      obtain ⟨⟨fs84, e84⟩, hm⟩ := hm
      refine xr_cVv (n := 1) (As := [.int xv1]) (st := []) C (c_X12_typePin a0 xv1 h 0 0 hm) e84 rfl wd_762 wd_764 wd_765 wd_712 wd_763 (by decide +kernel) rfl (by rw [hR.1, hR.2]; decide) (Nat.zero_add _).symm (Nat.zero_add _).symm rfl (Nat.le_of_ble_eq_true rfl) dX12_toCard_143 (fun h86 hn => ?_)
      clear hm
      have hm := hn
      clear hn
      refine xr_iconst (v := 1) C dX12_toCard_146 rfl ?_
      exact xr_zreturn C hr hlk (Or.inr rfl) hm dX12_toCard_147
set_option maxRecDepth 100000 in
set_option maxHeartbeats 4000000 in
theorem c_X12_toCard {l : Launch} {D : va_G} {E : Ev} (a0 : Nat) (xp1 : Int32) (xp2 : Int32) (h : Hp) (kc ks : Nat) {Q : Int32 → Hp → Prop} (hm : m_X12_toCard E a0 xp1 xp2 h kc ks Q) : XMet l yX12_toCard cX12_toCard 3 (some .boolean) 4 104 kc ks D E h [.ref a0, .int xp1, .int xp2] (fun A => va_Qi Q (XPost D A) A) := by
  refine xm_of (lv0 := [(0, .ref a0), (1, .int xp1), (2, .int xp2)]) (by decide) (Nat.le_of_ble_eq_true rfl) rfl RX12 rfl (fun p e s m args below meth c A R hRm C hr hlk hnm => ?_)
  have hR : R.frames = 4 ∧ R.locals = 104 := by rw [hRm]; exact ⟨rfl, rfl⟩
  refine xr_iload_n C dX12_toCard_0 2 rfl ?_
  refine xr_iconst (v := 1) C dX12_toCard_1 rfl ?_
  refine xr_icmp_ne (tgt := 126) C dX12_toCard_2 (by decide) (fun q1 => ?_) (fun q1 => ?_)
  · replace hm := hm.2 q1
    exact k_X12_toCard_L126 C hr hlk hnm hR a0 xp1 xp2 _ _ _ hm
  · replace hm := hm.1 q1
    refine xr_aload_n (r := (some a0)) C dX12_toCard_5 0 rfl ?_
    obtain ⟨fs2, r3, e2, f2, hm⟩ := hm
    refine xr_get (ci := 13) C 27 e2 f2 rfl inX12 (by decide) wd_675 dX12_toCard_6 ?_
    refine xr_iload_n C dX12_toCard_9 1 rfl ?_
    obtain ⟨a5, rfl, hm⟩ := hm
    obtain ⟨N4, f4, x6, e4, b4, v4, hm⟩ := hm
    refine xr_iald C 0 rfl e4 b4 v4 dX12_toCard_10 ?_
    refine xr_ldc (v := 60000) C dX12_toCard_11 wd_761 ?_
    refine xr_icmp_ge (tgt := 126) C dX12_toCard_13 (by decide) (fun q7 => ?_) (fun q7 => ?_)
    · replace hm := hm.1 q7
      exact k_X12_toCard_L126 C hr hlk hnm hR a0 xp1 xp2 _ _ _ hm
    · replace hm := hm.2 q7
      refine xr_aload_n (r := (some a0)) C dX12_toCard_16 0 rfl ?_
      refine xr_iload_n C dX12_toCard_17 1 rfl ?_
      obtain ⟨⟨fs8, e8⟩, hm⟩ := hm
      refine xr_cVi (n := 1) (As := [.int xp1]) (st := []) C (c_X12_writes a0 xp1 h 0 0 hm) e8 rfl wd_732 wd_734 wd_735 wd_712 wd_733 (by decide +kernel) rfl (by rw [hR.1, hR.2]; decide) (Nat.zero_add _).symm (Nat.zero_add _).symm rfl (Nat.le_of_ble_eq_true rfl) dX12_toCard_18 (fun x9 h10 hn => ?_)
      clear hm
      have hm := hn
      clear hn
      refine xr_if_eq (tgt := 124) C dX12_toCard_21 (by decide) (fun q11 => ?_) (fun q11 => ?_)
      · replace hm := hm.1 q11
        refine xr_iconst (v := 1) C dX12_toCard_124 rfl ?_
        exact xr_zreturn C hr hlk (Or.inr rfl) hm dX12_toCard_125
      · replace hm := hm.2 q11
        refine xr_aload_n (r := (some a0)) C dX12_toCard_24 0 rfl ?_
        obtain ⟨fs12, r13, e12, f12, hm⟩ := hm
        refine xr_get (ci := 13) C 27 e12 f12 rfl inX12 (by decide) wd_675 dX12_toCard_25 ?_
        refine xr_iload_n C dX12_toCard_28 1 rfl ?_
        refine xr_dup2_11 C dX12_toCard_29 rfl (xv_cat _) ?_
        obtain ⟨a15, rfl, hm⟩ := hm
        obtain ⟨N14, f14, x16, e14, b14, v14, hm⟩ := hm
        refine xr_iald C 0 rfl e14 b14 v14 dX12_toCard_30 ?_
        refine xr_iconst (v := 1) C dX12_toCard_31 rfl ?_
        refine xr_iadd C dX12_toCard_32 ?_
        obtain ⟨N17, f17, e17, b17, h18, v17, hm⟩ := hm
        refine xr_iast C 0 rfl e17 b17 v17 dX12_toCard_33 ?_
        refine xr_aload_n (r := (some a0)) C dX12_toCard_34 0 rfl ?_
        obtain ⟨fs19, r20, e19, f19, hm⟩ := hm
        refine xr_get (ci := 13) C 30 e19 f19 rfl inX12 (by decide) wd_678 dX12_toCard_35 ?_
        refine xr_iload_n C dX12_toCard_38 1 rfl ?_
        refine xr_iconst (v := 1) C dX12_toCard_39 rfl ?_
        obtain ⟨a22, rfl, hm⟩ := hm
        obtain ⟨N21, f21, e21, b21, h23, v21, hm⟩ := hm
        refine xr_iast C 0 rfl e21 b21 v21 dX12_toCard_40 ?_
        refine xr_aload_n (r := (some a0)) C dX12_toCard_41 0 rfl ?_
        obtain ⟨fs24, r25, e24, f24, hm⟩ := hm
        refine xr_get (ci := 13) C 31 e24 f24 rfl inX12 (by decide) wd_679 dX12_toCard_42 ?_
        refine xr_iload_n C dX12_toCard_45 1 rfl ?_
        refine xr_iconst (v := 0) C dX12_toCard_46 rfl ?_
        obtain ⟨a27, rfl, hm⟩ := hm
        obtain ⟨N26, f26, e26, b26, h28, v26, hm⟩ := hm
        refine xr_iast C 0 rfl e26 b26 v26 dX12_toCard_47 ?_
        refine xr_aload_n (r := (some a0)) C dX12_toCard_48 0 rfl ?_
        refine xr_ldc2 (v := 2) C dX12_toCard_49 wd_736 ?_
        obtain ⟨⟨fs29, e29⟩, hm⟩ := hm
        refine xr_cVv (n := 1) (As := [.long 2]) (st := []) C (c_X12_begin a0 2 h28 0 0 hm) e29 rfl wd_751 wd_753 wd_754 wd_712 wd_752 (by decide +kernel) rfl (by rw [hR.1, hR.2]; decide) (Nat.zero_add _).symm (Nat.zero_add _).symm rfl (Nat.le_of_ble_eq_true rfl) dX12_toCard_52 (fun h31 hn => ?_)
        clear hm
        have hm := hn
        clear hn
        refine xr_aload_n (r := (some a0)) C dX12_toCard_55 0 rfl ?_
        refine xr_iload_n C dX12_toCard_56 1 rfl ?_
        refine xr_i2l (v := xp1.toInt64) C dX12_toCard_57 rfl ?_
        obtain ⟨⟨fs32, e32⟩, hm⟩ := hm
        refine xr_cVv (n := 1) (As := [.long xp1.toInt64]) (st := []) C (c_X12_more a0 xp1.toInt64 h31 0 0 hm) e32 rfl wd_747 wd_749 wd_750 wd_712 wd_748 (by decide +kernel) rfl (by rw [hR.1, hR.2]; decide) (Nat.zero_add _).symm (Nat.zero_add _).symm rfl (Nat.le_of_ble_eq_true rfl) dX12_toCard_58 (fun h34 hn => ?_)
        clear hm
        have hm := hn
        clear hn
        refine xr_aload_n (r := (some a0)) C dX12_toCard_61 0 rfl ?_
        refine xr_aload_n (r := (some a0)) C dX12_toCard_62 0 rfl ?_
        obtain ⟨fs35, r36, e35, f35, hm⟩ := hm
        refine xr_get (ci := 13) C 27 e35 f35 rfl inX12 (by decide) wd_675 dX12_toCard_63 ?_
        refine xr_iload_n C dX12_toCard_66 1 rfl ?_
        obtain ⟨a38, rfl, hm⟩ := hm
        obtain ⟨N37, f37, x39, e37, b37, v37, hm⟩ := hm
        refine xr_iald C 0 rfl e37 b37 v37 dX12_toCard_67 ?_
        refine xr_i2l (v := x39.toInt64) C dX12_toCard_68 rfl ?_
        obtain ⟨⟨fs40, e40⟩, hm⟩ := hm
        refine xr_cVv (n := 1) (As := [.long x39.toInt64]) (st := []) C (c_X12_more a0 x39.toInt64 h34 0 0 hm) e40 rfl wd_747 wd_749 wd_750 wd_712 wd_748 (by decide +kernel) rfl (by rw [hR.1, hR.2]; decide) (Nat.zero_add _).symm (Nat.zero_add _).symm rfl (Nat.le_of_ble_eq_true rfl) dX12_toCard_69 (fun h42 hn => ?_)
        clear hm
        have hm := hn
        clear hn
        refine xr_aload_n (r := (some a0)) C dX12_toCard_72 0 rfl ?_
        refine xr_aload_n (r := (some a0)) C dX12_toCard_73 0 rfl ?_
        obtain ⟨fs43, r44, e43, f43, hm⟩ := hm
        refine xr_get (ci := 13) C 17 e43 f43 rfl inX12 (by decide) wd_667 dX12_toCard_74 ?_
        refine xr_iconst (v := 4) C dX12_toCard_77 rfl ?_
        obtain ⟨a46, rfl, hm⟩ := hm
        obtain ⟨N45, f45, y47, e45, b45, v45, hm⟩ := hm
        refine xr_lald C 1 rfl e45 b45 v45 dX12_toCard_78 ?_
        obtain ⟨⟨fs48, e48⟩, hm⟩ := hm
        refine xr_cVv (n := 1) (As := [.long y47]) (st := []) C (c_X12_more a0 y47 h42 0 0 hm) e48 rfl wd_747 wd_749 wd_750 wd_712 wd_748 (by decide +kernel) rfl (by rw [hR.1, hR.2]; decide) (Nat.zero_add _).symm (Nat.zero_add _).symm rfl (Nat.le_of_ble_eq_true rfl) dX12_toCard_79 (fun h50 hn => ?_)
        clear hm
        have hm := hn
        clear hn
        refine xr_aload_n (r := (some a0)) C dX12_toCard_82 0 rfl ?_
        obtain ⟨fs51, r52, e51, f51, hm⟩ := hm
        refine xr_get (ci := 13) C 18 e51 f51 rfl inX12 (by decide) wd_668 dX12_toCard_83 ?_
        refine xr_iconst (v := 1) C dX12_toCard_86 rfl ?_
        refine xr_iload_n C dX12_toCard_87 1 rfl ?_
        refine xr_i2l (v := xp1.toInt64) C dX12_toCard_88 rfl ?_
        obtain ⟨a54, rfl, hm⟩ := hm
        obtain ⟨N53, f53, e53, b53, h55, v53, hm⟩ := hm
        refine xr_last C 1 rfl e53 b53 v53 dX12_toCard_89 ?_
        refine xr_aload_n (r := (some a0)) C dX12_toCard_90 0 rfl ?_
        obtain ⟨fs56, r57, e56, f56, hm⟩ := hm
        refine xr_get (ci := 13) C 18 e56 f56 rfl inX12 (by decide) wd_668 dX12_toCard_91 ?_
        refine xr_iconst (v := 2) C dX12_toCard_94 rfl ?_
        refine xr_aload_n (r := (some a0)) C dX12_toCard_95 0 rfl ?_
        obtain ⟨fs58, r59, e58, f58, hm⟩ := hm
        refine xr_get (ci := 13) C 27 e58 f58 rfl inX12 (by decide) wd_675 dX12_toCard_96 ?_
        refine xr_iload_n C dX12_toCard_99 1 rfl ?_
        obtain ⟨a61, rfl, hm⟩ := hm
        obtain ⟨N60, f60, x62, e60, b60, v60, hm⟩ := hm
        refine xr_iald C 0 rfl e60 b60 v60 dX12_toCard_100 ?_
        refine xr_i2l (v := x62.toInt64) C dX12_toCard_101 rfl ?_
        obtain ⟨a64, rfl, hm⟩ := hm
        obtain ⟨N63, f63, e63, b63, h65, v63, hm⟩ := hm
        refine xr_last C 1 rfl e63 b63 v63 dX12_toCard_102 ?_
        refine xr_aload_n (r := (some a0)) C dX12_toCard_103 0 rfl ?_
        obtain ⟨fs66, r67, e66, f66, hm⟩ := hm
        refine xr_get (ci := 13) C 18 e66 f66 rfl inX12 (by decide) wd_668 dX12_toCard_104 ?_
        refine xr_bipush (v := 8) C dX12_toCard_107 rfl ?_
        refine xr_aload_n (r := (some a0)) C dX12_toCard_109 0 rfl ?_
        refine xr_iconst (v := 0) C dX12_toCard_110 rfl ?_
        refine xr_iload_n C dX12_toCard_111 1 rfl ?_
        refine xr_i2l (v := xp1.toInt64) C dX12_toCard_112 rfl ?_
        obtain ⟨⟨fs68, e68⟩, hm⟩ := hm
        refine xr_cVi (n := 2) (As := [.int 0, .long xp1.toInt64]) (st := [.int 8, va_rf r67]) C (c_X12_seal a0 0 xp1.toInt64 h65 0 0 hm) e68 rfl wd_743 wd_745 wd_746 wd_712 wd_744 (by decide +kernel) rfl (by rw [hR.1, hR.2]; decide) (Nat.zero_add _).symm (Nat.zero_add _).symm rfl (by simp [xv_cat, xv_ci, xv_cl, xv_cr, xv_cn]) dX12_toCard_113 (fun x69 h70 hn => ?_)
        clear hm
        have hm := hn
        clear hn
        refine xr_i2l (v := x69.toInt64) C dX12_toCard_116 rfl ?_
        obtain ⟨a72, rfl, hm⟩ := hm
        obtain ⟨N71, f71, e71, b71, h73, v71, hm⟩ := hm
        refine xr_last C 1 rfl e71 b71 v71 dX12_toCard_117 ?_
        refine xr_aload_n (r := (some a0)) C dX12_toCard_118 0 rfl ?_
        refine xr_iconst (v := 2) C dX12_toCard_119 rfl ?_
        refine xr_iload_n C dX12_toCard_120 1 rfl ?_
        obtain ⟨⟨fs74, e74⟩, hm⟩ := hm
        refine xr_cVv (n := 2) (As := [.int 2, .int xp1]) (st := []) C (c_X12_reply a0 2 xp1 h73 0 0 hm) e74 rfl wd_737 wd_739 wd_740 wd_712 wd_738 (by decide +kernel) rfl (by rw [hR.1, hR.2]; decide) (Nat.zero_add _).symm (Nat.zero_add _).symm rfl (Nat.le_of_ble_eq_true rfl) dX12_toCard_121 (fun h76 hn => ?_)
        clear hm
        have hm := hn
        clear hn
        refine xr_iconst (v := 1) C dX12_toCard_124 rfl ?_
        exact xr_zreturn C hr hlk (Or.inr rfl) hm dX12_toCard_125
set_option maxRecDepth 100000 in
set_option maxHeartbeats 4000000 in
theorem c_X12_end {l : Launch} {D : va_G} {E : Ev} (a0 : Nat) (xp1 : Int32) (xp2 : Int32) (h : Hp) (kc ks : Nat) {Q : Hp → Prop} (hm : m_X12_end E a0 xp1 xp2 h kc ks Q) : XMet l yX12_end cX12_end 3 none 0 0 kc ks D E h [.ref a0, .int xp1, .int xp2] (fun A => va_Qv Q (XPost D A) A) := by
  refine xm_of (lv0 := [(0, .ref a0), (1, .int xp1), (2, .int xp2)]) (by decide) (Nat.le_of_ble_eq_true rfl) rfl RX12 rfl (fun p e s m args below meth c A R hRm C hr hlk hnm => ?_)
  have hR : R.frames = 0 ∧ R.locals = 0 := by rw [hRm]; exact ⟨rfl, rfl⟩
  refine xr_aload_n (r := (some a0)) C dX12_end_0 0 rfl ?_
  obtain ⟨fs1, r2, e1, f1, hm⟩ := hm
  refine xr_get (ci := 13) C 40 e1 f1 rfl inX12 (by decide) wd_687 dX12_end_1 ?_
  refine xr_iload_n C dX12_end_4 1 rfl ?_
  refine xr_iload_n C dX12_end_5 2 rfl ?_
  obtain ⟨a4, rfl, hm⟩ := hm
  obtain ⟨N3, f3, e3, b3, h5, v3, hm⟩ := hm
  refine xr_iast C 0 rfl e3 b3 v3 dX12_end_6 ?_
  refine xr_aload_n (r := (some a0)) C dX12_end_7 0 rfl ?_
  obtain ⟨fs6, r7, e6, f6, hm⟩ := hm
  refine xr_get (ci := 13) C 41 e6 f6 rfl inX12 (by decide) wd_688 dX12_end_8 ?_
  refine xr_iload_n C dX12_end_11 1 rfl ?_
  refine xr_iconst (v := 0) C dX12_end_12 rfl ?_
  obtain ⟨a9, rfl, hm⟩ := hm
  obtain ⟨N8, f8, e8, b8, h10, v8, hm⟩ := hm
  refine xr_iast C 0 rfl e8 b8 v8 dX12_end_13 ?_
  exact xr_vreturn C hr hlk hm dX12_end_14
set_option maxRecDepth 100000 in
set_option maxHeartbeats 4000000 in
theorem c_X12_toItsCard {l : Launch} {D : va_G} {E : Ev} (a0 : Nat) (xp1 : Int32) (xp2 : Int32) (xp3 : Int32) (h : Hp) (kc ks : Nat) {Q : Hp → Prop} (hm : m_X12_toItsCard E a0 xp1 xp2 xp3 h kc ks Q) : XMet l yX12_toItsCard cX12_toItsCard 4 none 2 55 kc ks D E h [.ref a0, .int xp1, .int xp2, .int xp3] (fun A => va_Qv Q (XPost D A) A) := by
  refine xm_of (lv0 := [(0, .ref a0), (1, .int xp1), (2, .int xp2), (3, .int xp3)]) (by decide) (Nat.le_of_ble_eq_true rfl) rfl RX12 rfl (fun p e s m args below meth c A R hRm C hr hlk hnm => ?_)
  have hR : R.frames = 2 ∧ R.locals = 55 := by rw [hRm]; exact ⟨rfl, rfl⟩
  refine xr_aload_n (r := (some a0)) C dX12_toItsCard_0 0 rfl ?_
  refine xr_iload_n C dX12_toItsCard_1 2 rfl ?_
  refine xr_iconst (v := 1) C dX12_toItsCard_2 rfl ?_
  refine xr_iload_n C dX12_toItsCard_3 1 rfl ?_
  refine xr_iconst (v := 0) C dX12_toItsCard_4 rfl ?_
  refine xr_aload_n (r := (some a0)) C dX12_toItsCard_5 0 rfl ?_
  obtain ⟨fs1, r2, e1, f1, hm⟩ := hm
  refine xr_get (ci := 13) C 43 e1 f1 rfl inX12 (by decide) wd_690 dX12_toItsCard_6 ?_
  refine xr_iload_n C dX12_toItsCard_9 1 rfl ?_
  obtain ⟨a4, rfl, hm⟩ := hm
  obtain ⟨N3, f3, x5, e3, b3, v3, hm⟩ := hm
  refine xr_iald C 0 rfl e3 b3 v3 dX12_toItsCard_10 ?_
  obtain ⟨⟨fs6, e6⟩, hm⟩ := hm
  refine xr_cVi (n := 5) (As := [.int xp2, .int 1, .int xp1, .int 0, .int x5]) (st := []) C (c_X12_send a0 xp2 1 xp1 0 x5 h 0 0 hm) e6 rfl wd_728 wd_730 wd_731 wd_712 wd_729 (by decide +kernel) rfl (by rw [hR.1, hR.2]; decide) (Nat.zero_add _).symm (Nat.zero_add _).symm rfl (Nat.le_of_ble_eq_true rfl) dX12_toItsCard_11 (fun x7 h8 hn => ?_)
  clear hm
  have hm := hn
  clear hn
  refine xr_pop C dX12_toItsCard_14 rfl ?_
  refine xr_aload_n (r := (some a0)) C dX12_toItsCard_15 0 rfl ?_
  obtain ⟨fs9, r10, e9, f9, hm⟩ := hm
  refine xr_get (ci := 13) C 41 e9 f9 rfl inX12 (by decide) wd_688 dX12_toItsCard_16 ?_
  refine xr_iload_n C dX12_toItsCard_19 1 rfl ?_
  refine xr_iload_n C dX12_toItsCard_20 3 rfl ?_
  obtain ⟨a12, rfl, hm⟩ := hm
  obtain ⟨N11, f11, e11, b11, h13, v11, hm⟩ := hm
  refine xr_iast C 0 rfl e11 b11 v11 dX12_toItsCard_21 ?_
  refine xr_aload_n (r := (some a0)) C dX12_toItsCard_22 0 rfl ?_
  obtain ⟨fs14, r15, e14, f14, hm⟩ := hm
  refine xr_get (ci := 13) C 42 e14 f14 rfl inX12 (by decide) wd_689 dX12_toItsCard_23 ?_
  refine xr_iload_n C dX12_toItsCard_26 1 rfl ?_
  refine xr_aload_n (r := (some a0)) C dX12_toItsCard_27 0 rfl ?_
  obtain ⟨fs16, y17, e16, f16, hm⟩ := hm
  refine xr_get (ci := 13) C 52 e16 f16 rfl inX12 (by decide) wd_774 dX12_toItsCard_28 ?_
  obtain ⟨a19, rfl, hm⟩ := hm
  obtain ⟨N18, f18, e18, b18, h20, v18, hm⟩ := hm
  refine xr_last C 1 rfl e18 b18 v18 dX12_toItsCard_31 ?_
  exact xr_vreturn C hr hlk hm dX12_toItsCard_32
set_option maxRecDepth 100000 in
set_option maxHeartbeats 4000000 in
theorem k_X12_ask_L61 {p : Program} {l : Launch} {e : Env} {R : Room} {s : State} {m : MethodId} {args : Array Value} {below : List Frame} {meth : Method} {c : Code} {D : va_G} {E : Ev} {A : Nat → Prop} {KC KS : Nat} (C : XC p R s m args c D E A 2 RX12 cX12_ask KC KS) (hr : meth.sig.returnType = none) (hlk : meth.locks = false) (hnm : meth.name = "ask") (hR : R.frames = 3 ∧ R.locals = 78) {Q : Hp → Prop} : ∀ (a0 : Nat) (xv1 : Int32) (s0 : Int64) (s1 : Int32) (s2 : Option Nat) (h : Hp) (kc ks : Nat), m_X12_ask_L61 E a0 xv1 s0 s1 s2 h kc ks Q → XW p l e R s m args below meth c (MQ below (va_Qv Q (XPost D A) A) args s KC KS A) D A KC KS 2 h kc ks [(0, .ref a0), (1, .int xv1)] 61 [.long s0, .int s1, va_rf s2] := by
  intro a0 xv1 s0 s1 s2 h kc ks hm
  obtain ⟨a40, rfl, hm⟩ := hm
  obtain ⟨N39, f39, e39, b39, h41, v39, hm⟩ := hm
  refine xr_last C 1 rfl e39 b39 v39 dX12_ask_61 ?_
  refine xr_aload_n (r := (some a0)) C dX12_ask_62 0 rfl ?_
  refine xr_iload_n C dX12_ask_63 1 rfl ?_
  refine xr_iconst (v := 5) C dX12_ask_64 rfl ?_
  refine xr_bipush (v := 6) C dX12_ask_65 rfl ?_
  obtain ⟨⟨fs42, e42⟩, hm⟩ := hm
  refine xr_cVv (n := 3) (As := [.int xv1, .int 5, .int 6]) (st := []) C (c_X12_toItsCard a0 xv1 5 6 h41 0 0 hm) e42 rfl wd_775 wd_777 wd_778 wd_712 wd_776 (by decide +kernel) rfl (by rw [hR.1, hR.2]; decide) (Nat.zero_add _).symm (Nat.zero_add _).symm rfl (Nat.le_of_ble_eq_true rfl) dX12_ask_67 (fun h44 hn => ?_)
  clear hm
  have hm := hn
  clear hn
  exact xr_vreturn C hr hlk hm dX12_ask_70
set_option maxRecDepth 100000 in
set_option maxHeartbeats 4000000 in
theorem c_X12_ask {l : Launch} {D : va_G} {E : Ev} (a0 : Nat) (xp1 : Int32) (h : Hp) (kc ks : Nat) {Q : Hp → Prop} (hm : m_X12_ask E a0 xp1 h kc ks Q) : XMet l yX12_ask cX12_ask 2 none 3 78 kc ks D E h [.ref a0, .int xp1] (fun A => va_Qv Q (XPost D A) A) := by
  refine xm_of (lv0 := [(0, .ref a0), (1, .int xp1)]) (by decide) (Nat.le_of_ble_eq_true rfl) rfl RX12 rfl (fun p e s m args below meth c A R hRm C hr hlk hnm => ?_)
  have hR : R.frames = 3 ∧ R.locals = 78 := by rw [hRm]; exact ⟨rfl, rfl⟩
  refine xr_aload_n (r := (some a0)) C dX12_ask_0 0 rfl ?_
  obtain ⟨fs1, r2, e1, f1, hm⟩ := hm
  refine xr_get (ci := 13) C 18 e1 f1 rfl inX12 (by decide) wd_668 dX12_ask_1 ?_
  refine xr_iconst (v := 3) C dX12_ask_4 rfl ?_
  refine xr_aload_n (r := (some a0)) C dX12_ask_5 0 rfl ?_
  obtain ⟨fs3, r4, e3, f3, hm⟩ := hm
  refine xr_get (ci := 13) C 44 e3 f3 rfl inX12 (by decide) wd_691 dX12_ask_6 ?_
  refine xr_iload_n C dX12_ask_9 1 rfl ?_
  obtain ⟨a6, rfl, hm⟩ := hm
  obtain ⟨N5, f5, y7, e5, b5, v5, hm⟩ := hm
  refine xr_lald C 1 rfl e5 b5 v5 dX12_ask_10 ?_
  obtain ⟨a9, rfl, hm⟩ := hm
  obtain ⟨N8, f8, e8, b8, h10, v8, hm⟩ := hm
  refine xr_last C 1 rfl e8 b8 v8 dX12_ask_11 ?_
  refine xr_aload_n (r := (some a0)) C dX12_ask_12 0 rfl ?_
  obtain ⟨fs11, r12, e11, f11, hm⟩ := hm
  refine xr_get (ci := 13) C 18 e11 f11 rfl inX12 (by decide) wd_668 dX12_ask_13 ?_
  refine xr_iconst (v := 4) C dX12_ask_16 rfl ?_
  refine xr_aload_n (r := (some a0)) C dX12_ask_17 0 rfl ?_
  obtain ⟨fs13, r14, e13, f13, hm⟩ := hm
  refine xr_get (ci := 13) C 45 e13 f13 rfl inX12 (by decide) wd_692 dX12_ask_18 ?_
  refine xr_iload_n C dX12_ask_21 1 rfl ?_
  obtain ⟨a16, rfl, hm⟩ := hm
  obtain ⟨N15, f15, y17, e15, b15, v15, hm⟩ := hm
  refine xr_lald C 1 rfl e15 b15 v15 dX12_ask_22 ?_
  obtain ⟨a19, rfl, hm⟩ := hm
  obtain ⟨N18, f18, e18, b18, h20, v18, hm⟩ := hm
  refine xr_last C 1 rfl e18 b18 v18 dX12_ask_23 ?_
  refine xr_aload_n (r := (some a0)) C dX12_ask_24 0 rfl ?_
  obtain ⟨fs21, r22, e21, f21, hm⟩ := hm
  refine xr_get (ci := 13) C 18 e21 f21 rfl inX12 (by decide) wd_668 dX12_ask_25 ?_
  refine xr_iconst (v := 5) C dX12_ask_28 rfl ?_
  refine xr_iload_n C dX12_ask_29 1 rfl ?_
  refine xr_i2l (v := xp1.toInt64) C dX12_ask_30 rfl ?_
  obtain ⟨a24, rfl, hm⟩ := hm
  obtain ⟨N23, f23, e23, b23, h25, v23, hm⟩ := hm
  refine xr_last C 1 rfl e23 b23 v23 dX12_ask_31 ?_
  refine xr_aload_n (r := (some a0)) C dX12_ask_32 0 rfl ?_
  obtain ⟨fs26, r27, e26, f26, hm⟩ := hm
  refine xr_get (ci := 13) C 18 e26 f26 rfl inX12 (by decide) wd_668 dX12_ask_33 ?_
  refine xr_bipush (v := 7) C dX12_ask_36 rfl ?_
  refine xr_aload_n (r := (some a0)) C dX12_ask_38 0 rfl ?_
  obtain ⟨fs28, r29, e28, f28, hm⟩ := hm
  refine xr_get (ci := 13) C 44 e28 f28 rfl inX12 (by decide) wd_691 dX12_ask_39 ?_
  refine xr_iload_n C dX12_ask_42 1 rfl ?_
  obtain ⟨a31, rfl, hm⟩ := hm
  obtain ⟨N30, f30, y32, e30, b30, v30, hm⟩ := hm
  refine xr_lald C 1 rfl e30 b30 v30 dX12_ask_43 ?_
  refine xr_aload_n (r := (some a0)) C dX12_ask_44 0 rfl ?_
  obtain ⟨fs33, r34, e33, f33, hm⟩ := hm
  refine xr_get (ci := 13) C 37 e33 f33 rfl inX12 (by decide) wd_684 dX12_ask_45 ?_
  refine xr_iload_n C dX12_ask_48 1 rfl ?_
  obtain ⟨a36, rfl, hm⟩ := hm
  obtain ⟨N35, f35, y37, e35, b35, v35, hm⟩ := hm
  refine xr_lald C 1 rfl e35 b35 v35 dX12_ask_49 ?_
  refine xr_lcmp C dX12_ask_50 ?_
  refine xr_if_gt (tgt := 60) C dX12_ask_51 (by decide) (fun q38 => ?_) (fun q38 => ?_)
  · replace hm := hm.1 q38
    refine xr_lconst (v := 1) C dX12_ask_60 rfl ?_
    exact k_X12_ask_L61 C hr hlk hnm hR a0 xp1 1 7 r27 _ _ _ hm
  · replace hm := hm.2 q38
    refine xr_ldc2 (v := 2) C dX12_ask_54 wd_736 ?_
    refine xr_goto (tgt := 61) C dX12_ask_57 (by decide) ?_
    exact k_X12_ask_L61 C hr hlk hnm hR a0 xp1 2 7 r27 _ _ _ hm
set_option maxRecDepth 100000 in
set_option maxHeartbeats 4000000 in
theorem k_X12_takeCard_L73 {p : Program} {l : Launch} {e : Env} {R : Room} {s : State} {m : MethodId} {args : Array Value} {below : List Frame} {meth : Method} {c : Code} {D : va_G} {E : Ev} {A : Nat → Prop} {KC KS : Nat} (C : XC p R s m args c D E A 2 RX12 cX12_takeCard KC KS) (hr : meth.sig.returnType = none) (hlk : meth.locks = false) (hnm : meth.name = "takeCard") (hR : R.frames = 4 ∧ R.locals = 99) {Q : Hp → Prop} : ∀ (a0 : Nat) (xv1 : Int32) (h : Hp) (kc ks : Nat), m_X12_takeCard_L73 E a0 xv1 h kc ks Q → XW p l e R s m args below meth c (MQ below (va_Qv Q (XPost D A) A) args s KC KS A) D A KC KS 2 h kc ks [(0, .ref a0), (1, .int xv1)] 73 [] := by
  intro a0 xv1 h kc ks hm
  refine xr_aload_n (r := (some a0)) C dX12_takeCard_73 0 rfl ?_
  refine xr_iload_n C dX12_takeCard_74 1 rfl ?_
  refine xr_iconst (v := 3) C dX12_takeCard_75 rfl ?_
  obtain ⟨⟨fs102, e102⟩, hm⟩ := hm
  refine xr_cVv (n := 2) (As := [.int xv1, .int 3]) (st := []) C (c_X12_end a0 xv1 3 h 0 0 hm) e102 rfl wd_784 wd_786 wd_787 wd_712 wd_785 (by decide +kernel) rfl (by rw [hR.1, hR.2]; decide) (Nat.zero_add _).symm (Nat.zero_add _).symm rfl (Nat.le_of_ble_eq_true rfl) dX12_takeCard_76 (fun h104 hn => ?_)
  clear hm
  have hm := hn
  clear hn
  exact xr_vreturn C hr hlk hm dX12_takeCard_79
set_option maxRecDepth 100000 in
set_option maxHeartbeats 4000000 in
theorem c_X12_takeCard {l : Launch} {D : va_G} {E : Ev} (a0 : Nat) (xp1 : Int32) (h : Hp) (kc ks : Nat) {Q : Hp → Prop} (hm : m_X12_takeCard E a0 xp1 h kc ks Q) : XMet l yX12_takeCard cX12_takeCard 2 none 4 99 kc ks D E h [.ref a0, .int xp1] (fun A => va_Qv Q (XPost D A) A) := by
  refine xm_of (lv0 := [(0, .ref a0), (1, .int xp1)]) (by decide) (Nat.le_of_ble_eq_true rfl) rfl RX12 rfl (fun p e s m args below meth c A R hRm C hr hlk hnm => ?_)
  have hR : R.frames = 4 ∧ R.locals = 99 := by rw [hRm]; exact ⟨rfl, rfl⟩
  refine xr_aload_n (r := (some a0)) C dX12_takeCard_0 0 rfl ?_
  refine xr_ldc2 (v := 2) C dX12_takeCard_1 wd_736 ?_
  obtain ⟨⟨fs1, e1⟩, hm⟩ := hm
  refine xr_cVv (n := 1) (As := [.long 2]) (st := []) C (c_X12_begin a0 2 h 0 0 hm) e1 rfl wd_751 wd_753 wd_754 wd_712 wd_752 (by decide +kernel) rfl (by rw [hR.1, hR.2]; decide) (Nat.zero_add _).symm (Nat.zero_add _).symm rfl (Nat.le_of_ble_eq_true rfl) dX12_takeCard_4 (fun h3 hn => ?_)
  clear hm
  have hm := hn
  clear hn
  refine xr_aload_n (r := (some a0)) C dX12_takeCard_7 0 rfl ?_
  refine xr_aload_n (r := (some a0)) C dX12_takeCard_8 0 rfl ?_
  obtain ⟨fs4, r5, e4, f4, hm⟩ := hm
  refine xr_get (ci := 13) C 17 e4 f4 rfl inX12 (by decide) wd_667 dX12_takeCard_9 ?_
  refine xr_iconst (v := 1) C dX12_takeCard_12 rfl ?_
  obtain ⟨a7, rfl, hm⟩ := hm
  obtain ⟨N6, f6, y8, e6, b6, v6, hm⟩ := hm
  refine xr_lald C 1 rfl e6 b6 v6 dX12_takeCard_13 ?_
  obtain ⟨⟨fs9, e9⟩, hm⟩ := hm
  refine xr_cVv (n := 1) (As := [.long y8]) (st := []) C (c_X12_more a0 y8 h3 0 0 hm) e9 rfl wd_747 wd_749 wd_750 wd_712 wd_748 (by decide +kernel) rfl (by rw [hR.1, hR.2]; decide) (Nat.zero_add _).symm (Nat.zero_add _).symm rfl (Nat.le_of_ble_eq_true rfl) dX12_takeCard_14 (fun h11 hn => ?_)
  clear hm
  have hm := hn
  clear hn
  refine xr_aload_n (r := (some a0)) C dX12_takeCard_17 0 rfl ?_
  refine xr_aload_n (r := (some a0)) C dX12_takeCard_18 0 rfl ?_
  obtain ⟨fs12, r13, e12, f12, hm⟩ := hm
  refine xr_get (ci := 13) C 17 e12 f12 rfl inX12 (by decide) wd_667 dX12_takeCard_19 ?_
  refine xr_iconst (v := 2) C dX12_takeCard_22 rfl ?_
  obtain ⟨a15, rfl, hm⟩ := hm
  obtain ⟨N14, f14, y16, e14, b14, v14, hm⟩ := hm
  refine xr_lald C 1 rfl e14 b14 v14 dX12_takeCard_23 ?_
  obtain ⟨⟨fs17, e17⟩, hm⟩ := hm
  refine xr_cVv (n := 1) (As := [.long y16]) (st := []) C (c_X12_more a0 y16 h11 0 0 hm) e17 rfl wd_747 wd_749 wd_750 wd_712 wd_748 (by decide +kernel) rfl (by rw [hR.1, hR.2]; decide) (Nat.zero_add _).symm (Nat.zero_add _).symm rfl (Nat.le_of_ble_eq_true rfl) dX12_takeCard_24 (fun h19 hn => ?_)
  clear hm
  have hm := hn
  clear hn
  refine xr_aload_n (r := (some a0)) C dX12_takeCard_27 0 rfl ?_
  refine xr_aload_n (r := (some a0)) C dX12_takeCard_28 0 rfl ?_
  obtain ⟨fs20, r21, e20, f20, hm⟩ := hm
  refine xr_get (ci := 13) C 45 e20 f20 rfl inX12 (by decide) wd_692 dX12_takeCard_29 ?_
  refine xr_iload_n C dX12_takeCard_32 1 rfl ?_
  obtain ⟨a23, rfl, hm⟩ := hm
  obtain ⟨N22, f22, y24, e22, b22, v22, hm⟩ := hm
  refine xr_lald C 1 rfl e22 b22 v22 dX12_takeCard_33 ?_
  obtain ⟨⟨fs25, e25⟩, hm⟩ := hm
  refine xr_cVv (n := 1) (As := [.long y24]) (st := []) C (c_X12_more a0 y24 h19 0 0 hm) e25 rfl wd_747 wd_749 wd_750 wd_712 wd_748 (by decide +kernel) rfl (by rw [hR.1, hR.2]; decide) (Nat.zero_add _).symm (Nat.zero_add _).symm rfl (Nat.le_of_ble_eq_true rfl) dX12_takeCard_34 (fun h27 hn => ?_)
  clear hm
  have hm := hn
  clear hn
  refine xr_aload_n (r := (some a0)) C dX12_takeCard_37 0 rfl ?_
  obtain ⟨fs28, r29, e28, f28, hm⟩ := hm
  refine xr_get (ci := 13) C 17 e28 f28 rfl inX12 (by decide) wd_667 dX12_takeCard_38 ?_
  refine xr_iconst (v := 1) C dX12_takeCard_41 rfl ?_
  obtain ⟨a31, rfl, hm⟩ := hm
  obtain ⟨N30, f30, y32, e30, b30, v30, hm⟩ := hm
  refine xr_lald C 1 rfl e30 b30 v30 dX12_takeCard_42 ?_
  refine xr_aload_n (r := (some a0)) C dX12_takeCard_43 0 rfl ?_
  obtain ⟨fs33, x34, e33, f33, hm⟩ := hm
  refine xr_get (ci := 13) C 21 e33 f33 rfl inX12 (by decide) wd_779 dX12_takeCard_44 ?_
  refine xr_i2l (v := x34.toInt64) C dX12_takeCard_47 rfl ?_
  refine xr_lcmp C dX12_takeCard_48 ?_
  refine xr_if_ge (tgt := 73) C dX12_takeCard_49 (by decide) (fun q35 => ?_) (fun q35 => ?_)
  · replace hm := hm.1 q35
    exact k_X12_takeCard_L73 C hr hlk hnm hR a0 xp1 _ _ _ hm
  · replace hm := hm.2 q35
    refine xr_aload_n (r := (some a0)) C dX12_takeCard_52 0 rfl ?_
    refine xr_iconst (v := 0) C dX12_takeCard_53 rfl ?_
    refine xr_aload_n (r := (some a0)) C dX12_takeCard_54 0 rfl ?_
    obtain ⟨fs36, r37, e36, f36, hm⟩ := hm
    refine xr_get (ci := 13) C 17 e36 f36 rfl inX12 (by decide) wd_667 dX12_takeCard_55 ?_
    refine xr_iconst (v := 1) C dX12_takeCard_58 rfl ?_
    obtain ⟨a39, rfl, hm⟩ := hm
    obtain ⟨N38, f38, y40, e38, b38, v38, hm⟩ := hm
    refine xr_lald C 1 rfl e38 b38 v38 dX12_takeCard_59 ?_
    refine xr_aload_n (r := (some a0)) C dX12_takeCard_60 0 rfl ?_
    obtain ⟨fs41, r42, e41, f41, hm⟩ := hm
    refine xr_get (ci := 13) C 17 e41 f41 rfl inX12 (by decide) wd_667 dX12_takeCard_61 ?_
    refine xr_bipush (v := 8) C dX12_takeCard_64 rfl ?_
    obtain ⟨a44, rfl, hm⟩ := hm
    obtain ⟨N43, f43, y45, e43, b43, v43, hm⟩ := hm
    refine xr_lald C 1 rfl e43 b43 v43 dX12_takeCard_66 ?_
    obtain ⟨⟨fs46, e46⟩, hm⟩ := hm
    refine xr_cVi (n := 3) (As := [.int 0, .long y40, .long y45]) (st := []) C (c_X12_isGood a0 0 y40 y45 h27 0 0 hm) e46 rfl wd_756 wd_758 wd_759 wd_712 wd_757 (by decide +kernel) rfl (by rw [hR.1, hR.2]; decide) (Nat.zero_add _).symm (Nat.zero_add _).symm rfl (Nat.le_of_ble_eq_true rfl) dX12_takeCard_67 (fun x47 h48 hn => ?_)
    clear hm
    have hm := hn
    clear hn
    refine xr_if_ne (tgt := 80) C dX12_takeCard_70 (by decide) (fun q49 => ?_) (fun q49 => ?_)
    · replace hm := hm.2 q49
      refine xr_aload_n (r := (some a0)) C dX12_takeCard_80 0 rfl ?_
      obtain ⟨fs50, r51, e50, f50, hm⟩ := hm
      refine xr_get (ci := 13) C 47 e50 f50 rfl inX12 (by decide) wd_694 dX12_takeCard_81 ?_
      refine xr_iload_n C dX12_takeCard_84 1 rfl ?_
      refine xr_aload_n (r := (some a0)) C dX12_takeCard_85 0 rfl ?_
      obtain ⟨fs52, r53, e52, f52, hm⟩ := hm
      refine xr_get (ci := 13) C 17 e52 f52 rfl inX12 (by decide) wd_667 dX12_takeCard_86 ?_
      refine xr_iconst (v := 1) C dX12_takeCard_89 rfl ?_
      obtain ⟨a55, rfl, hm⟩ := hm
      obtain ⟨N54, f54, y56, e54, b54, v54, hm⟩ := hm
      refine xr_lald C 1 rfl e54 b54 v54 dX12_takeCard_90 ?_
      refine xr_l2i (v := y56.toInt32) C dX12_takeCard_91 rfl ?_
      obtain ⟨a58, rfl, hm⟩ := hm
      obtain ⟨N57, f57, e57, b57, h59, v57, hm⟩ := hm
      refine xr_iast C 0 rfl e57 b57 v57 dX12_takeCard_92 ?_
      refine xr_aload_n (r := (some a0)) C dX12_takeCard_93 0 rfl ?_
      obtain ⟨fs60, r61, e60, f60, hm⟩ := hm
      refine xr_get (ci := 13) C 48 e60 f60 rfl inX12 (by decide) wd_695 dX12_takeCard_94 ?_
      refine xr_iload_n C dX12_takeCard_97 1 rfl ?_
      refine xr_aload_n (r := (some a0)) C dX12_takeCard_98 0 rfl ?_
      obtain ⟨fs62, r63, e62, f62, hm⟩ := hm
      refine xr_get (ci := 13) C 17 e62 f62 rfl inX12 (by decide) wd_667 dX12_takeCard_99 ?_
      refine xr_iconst (v := 2) C dX12_takeCard_102 rfl ?_
      obtain ⟨a65, rfl, hm⟩ := hm
      obtain ⟨N64, f64, y66, e64, b64, v64, hm⟩ := hm
      refine xr_lald C 1 rfl e64 b64 v64 dX12_takeCard_103 ?_
      refine xr_l2i (v := y66.toInt32) C dX12_takeCard_104 rfl ?_
      obtain ⟨a68, rfl, hm⟩ := hm
      obtain ⟨N67, f67, e67, b67, h69, v67, hm⟩ := hm
      refine xr_iast C 0 rfl e67 b67 v67 dX12_takeCard_105 ?_
      refine xr_aload_n (r := (some a0)) C dX12_takeCard_106 0 rfl ?_
      obtain ⟨fs70, r71, e70, f70, hm⟩ := hm
      refine xr_get (ci := 13) C 44 e70 f70 rfl inX12 (by decide) wd_691 dX12_takeCard_107 ?_
      refine xr_iload_n C dX12_takeCard_110 1 rfl ?_
      obtain ⟨a73, rfl, hm⟩ := hm
      obtain ⟨N72, f72, y74, e72, b72, v72, hm⟩ := hm
      refine xr_lald C 1 rfl e72 b72 v72 dX12_takeCard_111 ?_
      refine xr_aload_n (r := (some a0)) C dX12_takeCard_112 0 rfl ?_
      obtain ⟨fs75, r76, e75, f75, hm⟩ := hm
      refine xr_get (ci := 13) C 38 e75 f75 rfl inX12 (by decide) wd_685 dX12_takeCard_113 ?_
      refine xr_iload_n C dX12_takeCard_116 1 rfl ?_
      obtain ⟨a78, rfl, hm⟩ := hm
      obtain ⟨N77, f77, y79, e77, b77, v77, hm⟩ := hm
      refine xr_lald C 1 rfl e77 b77 v77 dX12_takeCard_117 ?_
      refine xr_lcmp C dX12_takeCard_118 ?_
      refine xr_if_lt (tgt := 146) C dX12_takeCard_119 (by decide) (fun q80 => ?_) (fun q80 => ?_)
      · replace hm := hm.1 q80
        refine xr_aload_n (r := (some a0)) C dX12_takeCard_146 0 rfl ?_
        obtain ⟨fs81, r82, e81, f81, hm⟩ := hm
        refine xr_get (ci := 13) C 49 e81 f81 rfl inX12 (by decide) wd_696 dX12_takeCard_147 ?_
        refine xr_iload_n C dX12_takeCard_150 1 rfl ?_
        refine xr_iconst (v := 0) C dX12_takeCard_151 rfl ?_
        obtain ⟨a84, rfl, hm⟩ := hm
        obtain ⟨N83, f83, e83, b83, h85, v83, hm⟩ := hm
        refine xr_iast C 0 rfl e83 b83 v83 dX12_takeCard_152 ?_
        refine xr_aload_n (r := (some a0)) C dX12_takeCard_153 0 rfl ?_
        refine xr_iload_n C dX12_takeCard_154 1 rfl ?_
        obtain ⟨⟨fs86, e86⟩, hm⟩ := hm
        refine xr_cVv (n := 1) (As := [.int xp1]) (st := []) C (c_X12_ask a0 xp1 h85 0 0 hm) e86 rfl wd_780 wd_782 wd_783 wd_712 wd_781 (by decide +kernel) rfl (by rw [hR.1, hR.2]; decide) (Nat.zero_add _).symm (Nat.zero_add _).symm rfl (Nat.le_of_ble_eq_true rfl) dX12_takeCard_155 (fun h88 hn => ?_)
        clear hm
        have hm := hn
        clear hn
        exact xr_vreturn C hr hlk hm dX12_takeCard_158
      · replace hm := hm.2 q80
        refine xr_aload_n (r := (some a0)) C dX12_takeCard_122 0 rfl ?_
        obtain ⟨fs89, r90, e89, f89, hm⟩ := hm
        refine xr_get (ci := 13) C 18 e89 f89 rfl inX12 (by decide) wd_668 dX12_takeCard_123 ?_
        refine xr_bipush (v := 9) C dX12_takeCard_126 rfl ?_
        refine xr_aload_n (r := (some a0)) C dX12_takeCard_128 0 rfl ?_
        obtain ⟨fs91, r92, e91, f91, hm⟩ := hm
        refine xr_get (ci := 13) C 46 e91 f91 rfl inX12 (by decide) wd_693 dX12_takeCard_129 ?_
        refine xr_iload_n C dX12_takeCard_132 1 rfl ?_
        obtain ⟨a94, rfl, hm⟩ := hm
        obtain ⟨N93, f93, x95, e93, b93, v93, hm⟩ := hm
        refine xr_iald C 0 rfl e93 b93 v93 dX12_takeCard_133 ?_
        refine xr_i2l (v := x95.toInt64) C dX12_takeCard_134 rfl ?_
        obtain ⟨a97, rfl, hm⟩ := hm
        obtain ⟨N96, f96, e96, b96, h98, v96, hm⟩ := hm
        refine xr_last C 1 rfl e96 b96 v96 dX12_takeCard_135 ?_
        refine xr_aload_n (r := (some a0)) C dX12_takeCard_136 0 rfl ?_
        refine xr_iload_n C dX12_takeCard_137 1 rfl ?_
        refine xr_iconst (v := 3) C dX12_takeCard_138 rfl ?_
        refine xr_iconst (v := 4) C dX12_takeCard_139 rfl ?_
        obtain ⟨⟨fs99, e99⟩, hm⟩ := hm
        refine xr_cVv (n := 3) (As := [.int xp1, .int 3, .int 4]) (st := []) C (c_X12_toItsCard a0 xp1 3 4 h98 0 0 hm) e99 rfl wd_775 wd_777 wd_778 wd_712 wd_776 (by decide +kernel) rfl (by rw [hR.1, hR.2]; decide) (Nat.zero_add _).symm (Nat.zero_add _).symm rfl (Nat.le_of_ble_eq_true rfl) dX12_takeCard_140 (fun h101 hn => ?_)
        clear hm
        have hm := hn
        clear hn
        refine xr_goto (tgt := 158) C dX12_takeCard_143 (by decide) ?_
        exact xr_vreturn C hr hlk hm dX12_takeCard_158
    · replace hm := hm.1 q49
      exact k_X12_takeCard_L73 C hr hlk hnm hR a0 xp1 _ _ _ hm
set_option maxRecDepth 100000 in
set_option maxHeartbeats 4000000 in
theorem c_X12_fill {l : Launch} {D : va_G} {E : Ev} (a0 : Nat) (xp1 : Int32) (yp2 : Int64) (yp4 : Int64) (h : Hp) (kc ks : Nat) {Q : Hp → Prop} (hm : m_X12_fill E a0 xp1 yp2 yp4 h kc ks Q) : XMet l yX12_fill cX12_fill 6 none 0 0 kc ks D E h [.ref a0, .int xp1, .long yp2, .long yp4] (fun A => va_Qv Q (XPost D A) A) := by
  refine xm_of (lv0 := [(0, .ref a0), (1, .int xp1), (2, .long yp2), (4, .long yp4)]) (by decide) (Nat.le_of_ble_eq_true rfl) rfl RX12 rfl (fun p e s m args below meth c A R hRm C hr hlk hnm => ?_)
  have hR : R.frames = 0 ∧ R.locals = 0 := by rw [hRm]; exact ⟨rfl, rfl⟩
  refine xr_aload_n (r := (some a0)) C dX12_fill_0 0 rfl ?_
  obtain ⟨fs1, r2, e1, f1, hm⟩ := hm
  refine xr_get (ci := 13) C 18 e1 f1 rfl inX12 (by decide) wd_668 dX12_fill_1 ?_
  refine xr_iconst (v := 1) C dX12_fill_4 rfl ?_
  refine xr_aload_n (r := (some a0)) C dX12_fill_5 0 rfl ?_
  obtain ⟨fs3, r4, e3, f3, hm⟩ := hm
  refine xr_get (ci := 13) C 47 e3 f3 rfl inX12 (by decide) wd_694 dX12_fill_6 ?_
  refine xr_iload_n C dX12_fill_9 1 rfl ?_
  obtain ⟨a6, rfl, hm⟩ := hm
  obtain ⟨N5, f5, x7, e5, b5, v5, hm⟩ := hm
  refine xr_iald C 0 rfl e5 b5 v5 dX12_fill_10 ?_
  refine xr_i2l (v := x7.toInt64) C dX12_fill_11 rfl ?_
  obtain ⟨a9, rfl, hm⟩ := hm
  obtain ⟨N8, f8, e8, b8, h10, v8, hm⟩ := hm
  refine xr_last C 1 rfl e8 b8 v8 dX12_fill_12 ?_
  refine xr_aload_n (r := (some a0)) C dX12_fill_13 0 rfl ?_
  obtain ⟨fs11, r12, e11, f11, hm⟩ := hm
  refine xr_get (ci := 13) C 18 e11 f11 rfl inX12 (by decide) wd_668 dX12_fill_14 ?_
  refine xr_iconst (v := 2) C dX12_fill_17 rfl ?_
  refine xr_lload_n C dX12_fill_18 2 rfl ?_
  obtain ⟨a14, rfl, hm⟩ := hm
  obtain ⟨N13, f13, e13, b13, h15, v13, hm⟩ := hm
  refine xr_last C 1 rfl e13 b13 v13 dX12_fill_19 ?_
  refine xr_aload_n (r := (some a0)) C dX12_fill_20 0 rfl ?_
  obtain ⟨fs16, r17, e16, f16, hm⟩ := hm
  refine xr_get (ci := 13) C 18 e16 f16 rfl inX12 (by decide) wd_668 dX12_fill_21 ?_
  refine xr_iconst (v := 3) C dX12_fill_24 rfl ?_
  refine xr_aload_n (r := (some a0)) C dX12_fill_25 0 rfl ?_
  obtain ⟨fs18, r19, e18, f18, hm⟩ := hm
  refine xr_get (ci := 13) C 44 e18 f18 rfl inX12 (by decide) wd_691 dX12_fill_26 ?_
  refine xr_iload_n C dX12_fill_29 1 rfl ?_
  obtain ⟨a21, rfl, hm⟩ := hm
  obtain ⟨N20, f20, y22, e20, b20, v20, hm⟩ := hm
  refine xr_lald C 1 rfl e20 b20 v20 dX12_fill_30 ?_
  obtain ⟨a24, rfl, hm⟩ := hm
  obtain ⟨N23, f23, e23, b23, h25, v23, hm⟩ := hm
  refine xr_last C 1 rfl e23 b23 v23 dX12_fill_31 ?_
  refine xr_aload_n (r := (some a0)) C dX12_fill_32 0 rfl ?_
  obtain ⟨fs26, r27, e26, f26, hm⟩ := hm
  refine xr_get (ci := 13) C 18 e26 f26 rfl inX12 (by decide) wd_668 dX12_fill_33 ?_
  refine xr_iconst (v := 4) C dX12_fill_36 rfl ?_
  refine xr_aload_n (r := (some a0)) C dX12_fill_37 0 rfl ?_
  obtain ⟨fs28, r29, e28, f28, hm⟩ := hm
  refine xr_get (ci := 13) C 45 e28 f28 rfl inX12 (by decide) wd_692 dX12_fill_38 ?_
  refine xr_iload_n C dX12_fill_41 1 rfl ?_
  obtain ⟨a31, rfl, hm⟩ := hm
  obtain ⟨N30, f30, y32, e30, b30, v30, hm⟩ := hm
  refine xr_lald C 1 rfl e30 b30 v30 dX12_fill_42 ?_
  obtain ⟨a34, rfl, hm⟩ := hm
  obtain ⟨N33, f33, e33, b33, h35, v33, hm⟩ := hm
  refine xr_last C 1 rfl e33 b33 v33 dX12_fill_43 ?_
  refine xr_aload_n (r := (some a0)) C dX12_fill_44 0 rfl ?_
  obtain ⟨fs36, r37, e36, f36, hm⟩ := hm
  refine xr_get (ci := 13) C 18 e36 f36 rfl inX12 (by decide) wd_668 dX12_fill_45 ?_
  refine xr_iconst (v := 5) C dX12_fill_48 rfl ?_
  refine xr_iload_n C dX12_fill_49 1 rfl ?_
  refine xr_i2l (v := xp1.toInt64) C dX12_fill_50 rfl ?_
  obtain ⟨a39, rfl, hm⟩ := hm
  obtain ⟨N38, f38, e38, b38, h40, v38, hm⟩ := hm
  refine xr_last C 1 rfl e38 b38 v38 dX12_fill_51 ?_
  refine xr_aload_n (r := (some a0)) C dX12_fill_52 0 rfl ?_
  obtain ⟨fs41, r42, e41, f41, hm⟩ := hm
  refine xr_get (ci := 13) C 18 e41 f41 rfl inX12 (by decide) wd_668 dX12_fill_53 ?_
  refine xr_bipush (v := 6) C dX12_fill_56 rfl ?_
  refine xr_aload_n (r := (some a0)) C dX12_fill_58 0 rfl ?_
  obtain ⟨fs43, r44, e43, f43, hm⟩ := hm
  refine xr_get (ci := 13) C 49 e43 f43 rfl inX12 (by decide) wd_696 dX12_fill_59 ?_
  refine xr_iload_n C dX12_fill_62 1 rfl ?_
  obtain ⟨a46, rfl, hm⟩ := hm
  obtain ⟨N45, f45, x47, e45, b45, v45, hm⟩ := hm
  refine xr_iald C 0 rfl e45 b45 v45 dX12_fill_63 ?_
  refine xr_i2l (v := x47.toInt64) C dX12_fill_64 rfl ?_
  obtain ⟨a49, rfl, hm⟩ := hm
  obtain ⟨N48, f48, e48, b48, h50, v48, hm⟩ := hm
  refine xr_last C 1 rfl e48 b48 v48 dX12_fill_65 ?_
  refine xr_aload_n (r := (some a0)) C dX12_fill_66 0 rfl ?_
  obtain ⟨fs51, r52, e51, f51, hm⟩ := hm
  refine xr_get (ci := 13) C 18 e51 f51 rfl inX12 (by decide) wd_668 dX12_fill_67 ?_
  refine xr_bipush (v := 8) C dX12_fill_70 rfl ?_
  refine xr_lload C dX12_fill_72 3 rfl ?_
  obtain ⟨a54, rfl, hm⟩ := hm
  obtain ⟨N53, f53, e53, b53, h55, v53, hm⟩ := hm
  refine xr_last C 1 rfl e53 b53 v53 dX12_fill_74 ?_
  exact xr_vreturn C hr hlk hm dX12_fill_75
set_option maxRecDepth 100000 in
set_option maxHeartbeats 4000000 in
theorem k_X12_sign_L30 {p : Program} {l : Launch} {e : Env} {R : Room} {s : State} {m : MethodId} {args : Array Value} {below : List Frame} {meth : Method} {c : Code} {D : va_G} {E : Ev} {A : Nat → Prop} {KC KS : Nat} (C : XC p R s m args c D E A 4 RX12 cX12_sign KC KS) (hr : meth.sig.returnType = none) (hlk : meth.locks = false) (hnm : meth.name = "sign") (hR : R.frames = 2 ∧ R.locals = 52) {K8 : Nat → Int32 → Int32 → Hp → Nat → Nat → Prop} {Q : Hp → Prop} (hK8 : ∀ (a0 : Nat) (xv1 : Int32) (xv3 : Int32) (h : Hp) (kc ks : Nat), K8 a0 xv1 xv3 h kc ks → XW p l e R s m args below meth c (MQ below (va_Qv Q (XPost D A) A) args s KC KS A) D A KC KS 4 h kc ks [(0, .ref a0), (1, .int xv1), (3, .int xv3)] 8 []) : ∀ (a0 : Nat) (xv1 : Int32) (xv3 : Int32) (h : Hp) (kc ks : Nat), m_X12_sign_L30 E a0 xv1 xv3 h kc ks K8 Q → XW p l e R s m args below meth c (MQ below (va_Qv Q (XPost D A) A) args s KC KS A) D A KC KS 4 h kc ks [(0, .ref a0), (1, .int xv1), (3, .int xv3)] 30 [] := by
  intro a0 xv1 xv3 h kc ks hm
  refine xr_iinc (j := 2) (v := xv3 + 1) (lv' := [(3, .int (xv3 + 1)), (0, .ref a0), (1, .int xv1)]) C dX12_sign_30 rfl rfl (by decide) rfl ?_
  refine xr_goto (tgt := 8) C dX12_sign_33 (by decide) ?_
  refine xr_sub [1, 2, 0] rfl ?_
  exact hK8 a0 xv1 (xv3 + 1) _ _ _ hm
set_option maxRecDepth 100000 in
set_option maxHeartbeats 4000000 in
theorem k_X12_sign_L8 {p : Program} {l : Launch} {e : Env} {R : Room} {s : State} {m : MethodId} {args : Array Value} {below : List Frame} {meth : Method} {c : Code} {D : va_G} {E : Ev} {A : Nat → Prop} {KC KS : Nat} (C : XC p R s m args c D E A 4 RX12 cX12_sign KC KS) (hr : meth.sig.returnType = none) (hlk : meth.locks = false) (hnm : meth.name = "sign") (hR : R.frames = 2 ∧ R.locals = 52) {Q : Hp → Prop} : ∀ (n : Nat) (a0 : Nat) (xv1 : Int32) (xv3 : Int32) (h : Hp) (kc ks : Nat), m_X12_sign_L8 n E a0 xv1 xv3 h kc ks Q → XW p l e R s m args below meth c (MQ below (va_Qv Q (XPost D A) A) args s KC KS A) D A KC KS 4 h kc ks [(0, .ref a0), (1, .int xv1), (3, .int xv3)] 8 [] := by
  intro n
  induction n with
  | zero => intro a0 xv1 xv3 h kc ks hm; exact False.elim hm
  | succ n ih =>
    intro a0 xv1 xv3 h kc ks hm
    refine xr_iload_n C dX12_sign_8 2 rfl ?_
    refine xr_bipush (v := 8) C dX12_sign_9 rfl ?_
    refine xr_icmp_gt (tgt := 36) C dX12_sign_11 (by decide) (fun q5 => ?_) (fun q5 => ?_)
    · replace hm := hm.1 q5
      refine xr_aload_n (r := (some a0)) C dX12_sign_36 0 rfl ?_
      obtain ⟨fs6, r7, e6, f6, hm⟩ := hm
      refine xr_get (ci := 13) C 18 e6 f6 rfl inX12 (by decide) wd_668 dX12_sign_37 ?_
      refine xr_bipush (v := 11) C dX12_sign_40 rfl ?_
      refine xr_aload_n (r := (some a0)) C dX12_sign_42 0 rfl ?_
      refine xr_iconst (v := 1) C dX12_sign_43 rfl ?_
      refine xr_iload_n C dX12_sign_44 1 rfl ?_
      refine xr_i2l (v := xv1.toInt64) C dX12_sign_45 rfl ?_
      obtain ⟨⟨fs8, e8⟩, hm⟩ := hm
      refine xr_cVi (n := 2) (As := [.int 1, .long xv1.toInt64]) (st := [.int 11, va_rf r7]) C (c_X12_seal a0 1 xv1.toInt64 h 0 0 hm) e8 rfl wd_743 wd_745 wd_746 wd_712 wd_744 (by decide +kernel) rfl (by rw [hR.1, hR.2]; decide) (Nat.zero_add _).symm (Nat.zero_add _).symm rfl (by simp [xv_cat, xv_ci, xv_cl, xv_cr, xv_cn]) dX12_sign_46 (fun x9 h10 hn => ?_)
      clear hm
      have hm := hn
      clear hn
      refine xr_i2l (v := x9.toInt64) C dX12_sign_49 rfl ?_
      obtain ⟨a12, rfl, hm⟩ := hm
      obtain ⟨N11, f11, e11, b11, h13, v11, hm⟩ := hm
      refine xr_last C 1 rfl e11 b11 v11 dX12_sign_50 ?_
      exact xr_vreturn C hr hlk hm dX12_sign_51
    · replace hm := hm.2 q5
      refine xr_iload_n C dX12_sign_14 2 rfl ?_
      refine xr_bipush (v := 7) C dX12_sign_15 rfl ?_
      refine xr_icmp_eq (tgt := 30) C dX12_sign_17 (by decide) (fun q14 => ?_) (fun q14 => ?_)
      · replace hm := hm.1 q14
        exact k_X12_sign_L30 C hr hlk hnm hR ih a0 xv1 xv3 _ _ _ hm
      · replace hm := hm.2 q14
        refine xr_aload_n (r := (some a0)) C dX12_sign_20 0 rfl ?_
        refine xr_aload_n (r := (some a0)) C dX12_sign_21 0 rfl ?_
        obtain ⟨fs15, r16, e15, f15, hm⟩ := hm
        refine xr_get (ci := 13) C 18 e15 f15 rfl inX12 (by decide) wd_668 dX12_sign_22 ?_
        refine xr_iload_n C dX12_sign_25 2 rfl ?_
        obtain ⟨a18, rfl, hm⟩ := hm
        obtain ⟨N17, f17, y19, e17, b17, v17, hm⟩ := hm
        refine xr_lald C 1 rfl e17 b17 v17 dX12_sign_26 ?_
        obtain ⟨⟨fs20, e20⟩, hm⟩ := hm
        refine xr_cVv (n := 1) (As := [.long y19]) (st := []) C (c_X12_more a0 y19 h 0 0 hm) e20 rfl wd_747 wd_749 wd_750 wd_712 wd_748 (by decide +kernel) rfl (by rw [hR.1, hR.2]; decide) (Nat.zero_add _).symm (Nat.zero_add _).symm rfl (Nat.le_of_ble_eq_true rfl) dX12_sign_27 (fun h22 hn => ?_)
        clear hm
        have hm := hn
        clear hn
        exact k_X12_sign_L30 C hr hlk hnm hR ih a0 xv1 xv3 _ _ _ hm
set_option maxRecDepth 100000 in
set_option maxHeartbeats 4000000 in
theorem c_X12_sign {l : Launch} {D : va_G} {E : Ev} (a0 : Nat) (xp1 : Int32) (xp2 : Int32) (h : Hp) (kc ks : Nat) {Q : Hp → Prop} (hm : m_X12_sign E a0 xp1 xp2 h kc ks Q) : XMet l yX12_sign cX12_sign 4 none 2 52 kc ks D E h [.ref a0, .int xp1, .int xp2] (fun A => va_Qv Q (XPost D A) A) := by
  refine xm_of (lv0 := [(0, .ref a0), (1, .int xp1), (2, .int xp2)]) (by decide) (Nat.le_of_ble_eq_true rfl) rfl RX12 rfl (fun p e s m args below meth c A R hRm C hr hlk hnm => ?_)
  have hR : R.frames = 2 ∧ R.locals = 52 := by rw [hRm]; exact ⟨rfl, rfl⟩
  refine xr_aload_n (r := (some a0)) C dX12_sign_0 0 rfl ?_
  refine xr_iload_n C dX12_sign_1 2 rfl ?_
  refine xr_i2l (v := xp2.toInt64) C dX12_sign_2 rfl ?_
  obtain ⟨⟨fs1, e1⟩, hm⟩ := hm
  refine xr_cVv (n := 1) (As := [.long xp2.toInt64]) (st := []) C (c_X12_begin a0 xp2.toInt64 h 0 0 hm) e1 rfl wd_751 wd_753 wd_754 wd_712 wd_752 (by decide +kernel) rfl (by rw [hR.1, hR.2]; decide) (Nat.zero_add _).symm (Nat.zero_add _).symm rfl (Nat.le_of_ble_eq_true rfl) dX12_sign_3 (fun h3 hn => ?_)
  clear hm
  have hm := hn
  clear hn
  refine xr_iconst (v := 1) C dX12_sign_6 rfl ?_
  refine xr_istore_n (lv' := [(3, .int 1), (0, .ref a0), (1, .int xp1), (2, .int xp2)]) C dX12_sign_7 (by decide) rfl ?_
  obtain ⟨n4, hm⟩ := hm
  refine xr_sub [1, 2, 0] rfl ?_
  exact k_X12_sign_L8 C hr hlk hnm hR n4 a0 xp1 1 _ _ _ hm
set_option maxRecDepth 100000 in
set_option maxHeartbeats 4000000 in
theorem k_X12_takeAnswer_L26 {p : Program} {l : Launch} {e : Env} {R : Room} {s : State} {m : MethodId} {args : Array Value} {below : List Frame} {meth : Method} {c : Code} {D : va_G} {E : Ev} {A : Nat → Prop} {KC KS : Nat} (C : XC p R s m args c D E A 4 RX12 cX12_takeAnswer KC KS) (hr : meth.sig.returnType = none) (hlk : meth.locks = false) (hnm : meth.name = "takeAnswer") (hR : R.frames = 3 ∧ R.locals = 75) {Q : Hp → Prop} : ∀ (a0 : Nat) (xv1 : Int32) (h : Hp) (kc ks : Nat), m_X12_takeAnswer_L26 E a0 xv1 h kc ks Q → XW p l e R s m args below meth c (MQ below (va_Qv Q (XPost D A) A) args s KC KS A) D A KC KS 4 h kc ks [(0, .ref a0), (1, .int xv1)] 26 [] := by
  intro a0 xv1 h kc ks hm
  refine xr_aload_n (r := (some a0)) C dX12_takeAnswer_26 0 rfl ?_
  refine xr_iload_n C dX12_takeAnswer_27 1 rfl ?_
  refine xr_iconst (v := 3) C dX12_takeAnswer_28 rfl ?_
  obtain ⟨⟨fs153, e153⟩, hm⟩ := hm
  refine xr_cVv (n := 2) (As := [.int xv1, .int 3]) (st := []) C (c_X12_end a0 xv1 3 h 0 0 hm) e153 rfl wd_784 wd_786 wd_787 wd_712 wd_785 (by decide +kernel) rfl (by rw [hR.1, hR.2]; decide) (Nat.zero_add _).symm (Nat.zero_add _).symm rfl (Nat.le_of_ble_eq_true rfl) dX12_takeAnswer_29 (fun h155 hn => ?_)
  clear hm
  have hm := hn
  clear hn
  exact xr_vreturn C hr hlk hm dX12_takeAnswer_32
set_option maxRecDepth 100000 in
set_option maxHeartbeats 4000000 in
theorem k_X12_takeAnswer_L231 {p : Program} {l : Launch} {e : Env} {R : Room} {s : State} {m : MethodId} {args : Array Value} {below : List Frame} {meth : Method} {c : Code} {D : va_G} {E : Ev} {A : Nat → Prop} {KC KS : Nat} (C : XC p R s m args c D E A 4 RX12 cX12_takeAnswer KC KS) (hr : meth.sig.returnType = none) (hlk : meth.locks = false) (hnm : meth.name = "takeAnswer") (hR : R.frames = 3 ∧ R.locals = 75) {Q : Hp → Prop} : ∀ (a0 : Nat) (xv1 : Int32) (h : Hp) (kc ks : Nat), m_X12_takeAnswer_L231 E a0 xv1 h kc ks Q → XW p l e R s m args below meth c (MQ below (va_Qv Q (XPost D A) A) args s KC KS A) D A KC KS 4 h kc ks [(0, .ref a0), (1, .int xv1)] 231 [] := by
  intro a0 xv1 h kc ks hm
  refine xr_aload_n (r := (some a0)) C dX12_takeAnswer_231 0 rfl ?_
  refine xr_iload_n C dX12_takeAnswer_232 1 rfl ?_
  refine xr_iconst (v := 3) C dX12_takeAnswer_233 rfl ?_
  obtain ⟨⟨fs156, e156⟩, hm⟩ := hm
  refine xr_cVv (n := 2) (As := [.int xv1, .int 3]) (st := []) C (c_X12_end a0 xv1 3 h 0 0 hm) e156 rfl wd_784 wd_786 wd_787 wd_712 wd_785 (by decide +kernel) rfl (by rw [hR.1, hR.2]; decide) (Nat.zero_add _).symm (Nat.zero_add _).symm rfl (Nat.le_of_ble_eq_true rfl) dX12_takeAnswer_234 (fun h158 hn => ?_)
  clear hm
  have hm := hn
  clear hn
  exact xr_vreturn C hr hlk hm dX12_takeAnswer_237
set_option maxRecDepth 100000 in
set_option maxHeartbeats 4000000 in
theorem k_X12_takeAnswer_L297 {p : Program} {l : Launch} {e : Env} {R : Room} {s : State} {m : MethodId} {args : Array Value} {below : List Frame} {meth : Method} {c : Code} {D : va_G} {E : Ev} {A : Nat → Prop} {KC KS : Nat} (C : XC p R s m args c D E A 4 RX12 cX12_takeAnswer KC KS) (hr : meth.sig.returnType = none) (hlk : meth.locks = false) (hnm : meth.name = "takeAnswer") (hR : R.frames = 3 ∧ R.locals = 75) {K266 : Nat → Int32 → Int32 → Int32 → Hp → Nat → Nat → Prop} {Q : Hp → Prop} (hK266 : ∀ (a0 : Nat) (xv1 : Int32) (xv2 : Int32) (xv3 : Int32) (h : Hp) (kc ks : Nat), K266 a0 xv1 xv2 xv3 h kc ks → XW p l e R s m args below meth c (MQ below (va_Qv Q (XPost D A) A) args s KC KS A) D A KC KS 4 h kc ks [(0, .ref a0), (1, .int xv1), (2, .int xv2), (3, .int xv3)] 266 []) : ∀ (a0 : Nat) (xv1 : Int32) (xv2 : Int32) (xv3 : Int32) (s0 : Int32) (s1 : Option Nat) (s2 : Int32) (s3 : Option Nat) (h : Hp) (kc ks : Nat), m_X12_takeAnswer_L297 E a0 xv1 xv2 xv3 s0 s1 s2 s3 h kc ks K266 Q → XW p l e R s m args below meth c (MQ below (va_Qv Q (XPost D A) A) args s KC KS A) D A KC KS 4 h kc ks [(0, .ref a0), (1, .int xv1), (2, .int xv2), (3, .int xv3)] 297 [.int s0, va_rf s1, .int s2, va_rf s3] := by
  intro a0 xv1 xv2 xv3 s0 s1 s2 s3 h kc ks hm
  obtain ⟨a187, rfl, hm⟩ := hm
  obtain ⟨N186, f186, y188, e186, b186, v186, hm⟩ := hm
  refine xr_lald C 1 rfl e186 b186 v186 dX12_takeAnswer_297 ?_
  obtain ⟨a190, rfl, hm⟩ := hm
  obtain ⟨N189, f189, e189, b189, h191, v189, hm⟩ := hm
  refine xr_last C 1 rfl e189 b189 v189 dX12_takeAnswer_298 ?_
  refine xr_iinc (j := 3) (v := xv3 + 1) (lv' := [(3, .int (xv3 + 1)), (0, .ref a0), (1, .int xv1), (2, .int xv2)]) C dX12_takeAnswer_299 rfl rfl (by decide) rfl ?_
  refine xr_goto (tgt := 266) C dX12_takeAnswer_302 (by decide) ?_
  refine xr_sub [1, 2, 3, 0] rfl ?_
  exact hK266 a0 xv1 xv2 (xv3 + 1) _ _ _ hm
set_option maxRecDepth 100000 in
set_option maxHeartbeats 4000000 in
theorem k_X12_takeAnswer_L266 {p : Program} {l : Launch} {e : Env} {R : Room} {s : State} {m : MethodId} {args : Array Value} {below : List Frame} {meth : Method} {c : Code} {D : va_G} {E : Ev} {A : Nat → Prop} {KC KS : Nat} (C : XC p R s m args c D E A 4 RX12 cX12_takeAnswer KC KS) (hr : meth.sig.returnType = none) (hlk : meth.locks = false) (hnm : meth.name = "takeAnswer") (hR : R.frames = 3 ∧ R.locals = 75) {Q : Hp → Prop} : ∀ (n : Nat) (a0 : Nat) (xv1 : Int32) (xv2 : Int32) (xv3 : Int32) (h : Hp) (kc ks : Nat), m_X12_takeAnswer_L266 n E a0 xv1 xv2 xv3 h kc ks Q → XW p l e R s m args below meth c (MQ below (va_Qv Q (XPost D A) A) args s KC KS A) D A KC KS 4 h kc ks [(0, .ref a0), (1, .int xv1), (2, .int xv2), (3, .int xv3)] 266 [] := by
  intro n
  induction n with
  | zero => intro a0 xv1 xv2 xv3 h kc ks hm; exact False.elim hm
  | succ n ih =>
    intro a0 xv1 xv2 xv3 h kc ks hm
    refine xr_iload_n C dX12_takeAnswer_266 3 rfl ?_
    refine xr_bipush (v := 7) C dX12_takeAnswer_267 rfl ?_
    refine xr_icmp_ge (tgt := 305) C dX12_takeAnswer_269 (by decide) (fun q159 => ?_) (fun q159 => ?_)
    · replace hm := hm.1 q159
      refine xr_aload_n (r := (some a0)) C dX12_takeAnswer_305 0 rfl ?_
      obtain ⟨fs160, r161, e160, f160, hm⟩ := hm
      refine xr_get (ci := 13) C 54 e160 f160 rfl inX12 (by decide) wd_699 dX12_takeAnswer_306 ?_
      refine xr_aload_n (r := (some a0)) C dX12_takeAnswer_309 0 rfl ?_
      obtain ⟨fs162, x163, e162, f162, hm⟩ := hm
      refine xr_get (ci := 13) C 53 e162 f162 rfl inX12 (by decide) wd_788 dX12_takeAnswer_310 ?_
      refine xr_iload_n C dX12_takeAnswer_313 1 rfl ?_
      obtain ⟨a165, rfl, hm⟩ := hm
      obtain ⟨N164, f164, e164, b164, h166, v164, hm⟩ := hm
      refine xr_iast C 0 rfl e164 b164 v164 dX12_takeAnswer_314 ?_
      refine xr_aload_n (r := (some a0)) C dX12_takeAnswer_315 0 rfl ?_
      obtain ⟨fs167, r168, e167, f167, hm⟩ := hm
      refine xr_get (ci := 13) C 55 e167 f167 rfl inX12 (by decide) wd_700 dX12_takeAnswer_316 ?_
      refine xr_aload_n (r := (some a0)) C dX12_takeAnswer_319 0 rfl ?_
      obtain ⟨fs169, x170, e169, f169, hm⟩ := hm
      refine xr_get (ci := 13) C 53 e169 f169 rfl inX12 (by decide) wd_788 dX12_takeAnswer_320 ?_
      refine xr_iconst (v := 0) C dX12_takeAnswer_323 rfl ?_
      obtain ⟨a172, rfl, hm⟩ := hm
      obtain ⟨N171, f171, e171, b171, h173, v171, hm⟩ := hm
      refine xr_zast C 2 rfl e171 b171 v171 dX12_takeAnswer_324 ?_
      refine xr_aload_n (r := (some a0)) C dX12_takeAnswer_325 0 rfl ?_
      refine xr_dup C dX12_takeAnswer_326 rfl ?_
      obtain ⟨fs174, x175, e174, f174, hm⟩ := hm
      refine xr_get (ci := 13) C 53 e174 f174 rfl inX12 (by decide) wd_788 dX12_takeAnswer_327 ?_
      refine xr_iconst (v := 1) C dX12_takeAnswer_330 rfl ?_
      refine xr_iadd C dX12_takeAnswer_331 ?_
      obtain ⟨fs176, e176, f176, h177, eh176, hm⟩ := hm
      refine xr_put (ci := 13) (v := .int (x175 + 1)) C 53 .int tyX12 tyX12_ok nmX12 e176 f176 rfl inX12 (by decide) wd_788 rfl (by decide) rfl rfl eh176 dX12_takeAnswer_332 ?_
      refine xr_aload_n (r := (some a0)) C dX12_takeAnswer_335 0 rfl ?_
      refine xr_iload_n C dX12_takeAnswer_336 1 rfl ?_
      refine xr_iconst (v := 2) C dX12_takeAnswer_337 rfl ?_
      obtain ⟨⟨fs178, e178⟩, hm⟩ := hm
      refine xr_cVv (n := 2) (As := [.int xv1, .int 2]) (st := []) C (c_X12_end a0 xv1 2 h177 0 0 hm) e178 rfl wd_784 wd_786 wd_787 wd_712 wd_785 (by decide +kernel) rfl (by rw [hR.1, hR.2]; decide) (Nat.zero_add _).symm (Nat.zero_add _).symm rfl (Nat.le_of_ble_eq_true rfl) dX12_takeAnswer_338 (fun h180 hn => ?_)
      clear hm
      have hm := hn
      clear hn
      exact xr_vreturn C hr hlk hm dX12_takeAnswer_341
    · replace hm := hm.2 q159
      refine xr_aload_n (r := (some a0)) C dX12_takeAnswer_272 0 rfl ?_
      obtain ⟨fs181, r182, e181, f181, hm⟩ := hm
      refine xr_get (ci := 13) C 56 e181 f181 rfl inX12 (by decide) wd_701 dX12_takeAnswer_273 ?_
      refine xr_iload_n C dX12_takeAnswer_276 2 rfl ?_
      refine xr_iload_n C dX12_takeAnswer_277 3 rfl ?_
      refine xr_iadd C dX12_takeAnswer_278 ?_
      refine xr_aload_n (r := (some a0)) C dX12_takeAnswer_279 0 rfl ?_
      obtain ⟨fs183, r184, e183, f183, hm⟩ := hm
      refine xr_get (ci := 13) C 18 e183 f183 rfl inX12 (by decide) wd_668 dX12_takeAnswer_280 ?_
      refine xr_iload_n C dX12_takeAnswer_283 3 rfl ?_
      refine xr_bipush (v := 6) C dX12_takeAnswer_284 rfl ?_
      refine xr_icmp_ge (tgt := 295) C dX12_takeAnswer_286 (by decide) (fun q185 => ?_) (fun q185 => ?_)
      · replace hm := hm.1 q185
        refine xr_bipush (v := 8) C dX12_takeAnswer_295 rfl ?_
        exact k_X12_takeAnswer_L297 C hr hlk hnm hR ih a0 xv1 xv2 xv3 8 r184 (xv2 + xv3) r182 _ _ _ hm
      · replace hm := hm.2 q185
        refine xr_iload_n C dX12_takeAnswer_289 3 rfl ?_
        refine xr_iconst (v := 1) C dX12_takeAnswer_290 rfl ?_
        refine xr_iadd C dX12_takeAnswer_291 ?_
        refine xr_goto (tgt := 297) C dX12_takeAnswer_292 (by decide) ?_
        exact k_X12_takeAnswer_L297 C hr hlk hnm hR ih a0 xv1 xv2 xv3 (xv3 + 1) r184 (xv2 + xv3) r182 _ _ _ hm
set_option maxRecDepth 100000 in
set_option maxHeartbeats 4000000 in
theorem c_X12_takeAnswer {l : Launch} {D : va_G} {E : Ev} (a0 : Nat) (xp1 : Int32) (h : Hp) (kc ks : Nat) {Q : Hp → Prop} (hm : m_X12_takeAnswer E a0 xp1 h kc ks Q) : XMet l yX12_takeAnswer cX12_takeAnswer 4 none 3 75 kc ks D E h [.ref a0, .int xp1] (fun A => va_Qv Q (XPost D A) A) := by
  refine xm_of (lv0 := [(0, .ref a0), (1, .int xp1)]) (by decide) (Nat.le_of_ble_eq_true rfl) rfl RX12 rfl (fun p e s m args below meth c A R hRm C hr hlk hnm => ?_)
  have hR : R.frames = 3 ∧ R.locals = 75 := by rw [hRm]; exact ⟨rfl, rfl⟩
  refine xr_aload_n (r := (some a0)) C dX12_takeAnswer_0 0 rfl ?_
  obtain ⟨fs1, r2, e1, f1, hm⟩ := hm
  refine xr_get (ci := 13) C 17 e1 f1 rfl inX12 (by decide) wd_667 dX12_takeAnswer_1 ?_
  refine xr_bipush (v := 7) C dX12_takeAnswer_4 rfl ?_
  obtain ⟨a4, rfl, hm⟩ := hm
  obtain ⟨N3, f3, y5, e3, b3, v3, hm⟩ := hm
  refine xr_lald C 1 rfl e3 b3 v3 dX12_takeAnswer_6 ?_
  refine xr_lconst (v := 0) C dX12_takeAnswer_7 rfl ?_
  refine xr_lcmp C dX12_takeAnswer_8 ?_
  refine xr_if_eq (tgt := 26) C dX12_takeAnswer_9 (by decide) (fun q6 => ?_) (fun q6 => ?_)
  · replace hm := hm.1 q6
    exact k_X12_takeAnswer_L26 C hr hlk hnm hR a0 xp1 _ _ _ hm
  · replace hm := hm.2 q6
    refine xr_aload_n (r := (some a0)) C dX12_takeAnswer_12 0 rfl ?_
    obtain ⟨fs7, r8, e7, f7, hm⟩ := hm
    refine xr_get (ci := 13) C 17 e7 f7 rfl inX12 (by decide) wd_667 dX12_takeAnswer_13 ?_
    refine xr_bipush (v := 7) C dX12_takeAnswer_16 rfl ?_
    obtain ⟨a10, rfl, hm⟩ := hm
    obtain ⟨N9, f9, y11, e9, b9, v9, hm⟩ := hm
    refine xr_lald C 1 rfl e9 b9 v9 dX12_takeAnswer_18 ?_
    refine xr_ldc2 (v := 2) C dX12_takeAnswer_19 wd_736 ?_
    refine xr_lcmp C dX12_takeAnswer_22 ?_
    refine xr_if_le (tgt := 33) C dX12_takeAnswer_23 (by decide) (fun q12 => ?_) (fun q12 => ?_)
    · replace hm := hm.1 q12
      refine xr_aload_n (r := (some a0)) C dX12_takeAnswer_33 0 rfl ?_
      obtain ⟨fs13, r14, e13, f13, hm⟩ := hm
      refine xr_get (ci := 13) C 17 e13 f13 rfl inX12 (by decide) wd_667 dX12_takeAnswer_34 ?_
      refine xr_bipush (v := 7) C dX12_takeAnswer_37 rfl ?_
      obtain ⟨a16, rfl, hm⟩ := hm
      obtain ⟨N15, f15, y17, e15, b15, v15, hm⟩ := hm
      refine xr_lald C 1 rfl e15 b15 v15 dX12_takeAnswer_39 ?_
      refine xr_lconst (v := 1) C dX12_takeAnswer_40 rfl ?_
      refine xr_lcmp C dX12_takeAnswer_41 ?_
      refine xr_if_ne (tgt := 113) C dX12_takeAnswer_42 (by decide) (fun q18 => ?_) (fun q18 => ?_)
      · replace hm := hm.2 q18
        refine xr_aload_n (r := (some a0)) C dX12_takeAnswer_113 0 rfl ?_
        refine xr_ldc2 (v := 6) C dX12_takeAnswer_114 wd_741 ?_
        obtain ⟨⟨fs19, e19⟩, hm⟩ := hm
        refine xr_cVv (n := 1) (As := [.long 6]) (st := []) C (c_X12_begin a0 6 h 0 0 hm) e19 rfl wd_751 wd_753 wd_754 wd_712 wd_752 (by decide +kernel) rfl (by rw [hR.1, hR.2]; decide) (Nat.zero_add _).symm (Nat.zero_add _).symm rfl (Nat.le_of_ble_eq_true rfl) dX12_takeAnswer_117 (fun h21 hn => ?_)
        clear hm
        have hm := hn
        clear hn
        refine xr_aload_n (r := (some a0)) C dX12_takeAnswer_120 0 rfl ?_
        refine xr_ldc2 (v := 2) C dX12_takeAnswer_121 wd_736 ?_
        obtain ⟨⟨fs22, e22⟩, hm⟩ := hm
        refine xr_cVv (n := 1) (As := [.long 2]) (st := []) C (c_X12_more a0 2 h21 0 0 hm) e22 rfl wd_747 wd_749 wd_750 wd_712 wd_748 (by decide +kernel) rfl (by rw [hR.1, hR.2]; decide) (Nat.zero_add _).symm (Nat.zero_add _).symm rfl (Nat.le_of_ble_eq_true rfl) dX12_takeAnswer_124 (fun h24 hn => ?_)
        clear hm
        have hm := hn
        clear hn
        refine xr_aload_n (r := (some a0)) C dX12_takeAnswer_127 0 rfl ?_
        refine xr_aload_n (r := (some a0)) C dX12_takeAnswer_128 0 rfl ?_
        obtain ⟨fs25, r26, e25, f25, hm⟩ := hm
        refine xr_get (ci := 13) C 44 e25 f25 rfl inX12 (by decide) wd_691 dX12_takeAnswer_129 ?_
        refine xr_iload_n C dX12_takeAnswer_132 1 rfl ?_
        obtain ⟨a28, rfl, hm⟩ := hm
        obtain ⟨N27, f27, y29, e27, b27, v27, hm⟩ := hm
        refine xr_lald C 1 rfl e27 b27 v27 dX12_takeAnswer_133 ?_
        obtain ⟨⟨fs30, e30⟩, hm⟩ := hm
        refine xr_cVv (n := 1) (As := [.long y29]) (st := []) C (c_X12_more a0 y29 h24 0 0 hm) e30 rfl wd_747 wd_749 wd_750 wd_712 wd_748 (by decide +kernel) rfl (by rw [hR.1, hR.2]; decide) (Nat.zero_add _).symm (Nat.zero_add _).symm rfl (Nat.le_of_ble_eq_true rfl) dX12_takeAnswer_134 (fun h32 hn => ?_)
        clear hm
        have hm := hn
        clear hn
        refine xr_aload_n (r := (some a0)) C dX12_takeAnswer_137 0 rfl ?_
        refine xr_aload_n (r := (some a0)) C dX12_takeAnswer_138 0 rfl ?_
        obtain ⟨fs33, r34, e33, f33, hm⟩ := hm
        refine xr_get (ci := 13) C 45 e33 f33 rfl inX12 (by decide) wd_692 dX12_takeAnswer_139 ?_
        refine xr_iload_n C dX12_takeAnswer_142 1 rfl ?_
        obtain ⟨a36, rfl, hm⟩ := hm
        obtain ⟨N35, f35, y37, e35, b35, v35, hm⟩ := hm
        refine xr_lald C 1 rfl e35 b35 v35 dX12_takeAnswer_143 ?_
        obtain ⟨⟨fs38, e38⟩, hm⟩ := hm
        refine xr_cVv (n := 1) (As := [.long y37]) (st := []) C (c_X12_more a0 y37 h32 0 0 hm) e38 rfl wd_747 wd_749 wd_750 wd_712 wd_748 (by decide +kernel) rfl (by rw [hR.1, hR.2]; decide) (Nat.zero_add _).symm (Nat.zero_add _).symm rfl (Nat.le_of_ble_eq_true rfl) dX12_takeAnswer_144 (fun h40 hn => ?_)
        clear hm
        have hm := hn
        clear hn
        refine xr_aload_n (r := (some a0)) C dX12_takeAnswer_147 0 rfl ?_
        refine xr_iload_n C dX12_takeAnswer_148 1 rfl ?_
        refine xr_i2l (v := xp1.toInt64) C dX12_takeAnswer_149 rfl ?_
        obtain ⟨⟨fs41, e41⟩, hm⟩ := hm
        refine xr_cVv (n := 1) (As := [.long xp1.toInt64]) (st := []) C (c_X12_more a0 xp1.toInt64 h40 0 0 hm) e41 rfl wd_747 wd_749 wd_750 wd_712 wd_748 (by decide +kernel) rfl (by rw [hR.1, hR.2]; decide) (Nat.zero_add _).symm (Nat.zero_add _).symm rfl (Nat.le_of_ble_eq_true rfl) dX12_takeAnswer_150 (fun h43 hn => ?_)
        clear hm
        have hm := hn
        clear hn
        refine xr_aload_n (r := (some a0)) C dX12_takeAnswer_153 0 rfl ?_
        refine xr_aload_n (r := (some a0)) C dX12_takeAnswer_154 0 rfl ?_
        obtain ⟨fs44, r45, e44, f44, hm⟩ := hm
        refine xr_get (ci := 13) C 17 e44 f44 rfl inX12 (by decide) wd_667 dX12_takeAnswer_155 ?_
        refine xr_iconst (v := 2) C dX12_takeAnswer_158 rfl ?_
        obtain ⟨a47, rfl, hm⟩ := hm
        obtain ⟨N46, f46, y48, e46, b46, v46, hm⟩ := hm
        refine xr_lald C 1 rfl e46 b46 v46 dX12_takeAnswer_159 ?_
        obtain ⟨⟨fs49, e49⟩, hm⟩ := hm
        refine xr_cVv (n := 1) (As := [.long y48]) (st := []) C (c_X12_more a0 y48 h43 0 0 hm) e49 rfl wd_747 wd_749 wd_750 wd_712 wd_748 (by decide +kernel) rfl (by rw [hR.1, hR.2]; decide) (Nat.zero_add _).symm (Nat.zero_add _).symm rfl (Nat.le_of_ble_eq_true rfl) dX12_takeAnswer_160 (fun h51 hn => ?_)
        clear hm
        have hm := hn
        clear hn
        refine xr_aload_n (r := (some a0)) C dX12_takeAnswer_163 0 rfl ?_
        refine xr_aload_n (r := (some a0)) C dX12_takeAnswer_164 0 rfl ?_
        obtain ⟨fs52, r53, e52, f52, hm⟩ := hm
        refine xr_get (ci := 13) C 49 e52 f52 rfl inX12 (by decide) wd_696 dX12_takeAnswer_165 ?_
        refine xr_iload_n C dX12_takeAnswer_168 1 rfl ?_
        obtain ⟨a55, rfl, hm⟩ := hm
        obtain ⟨N54, f54, x56, e54, b54, v54, hm⟩ := hm
        refine xr_iald C 0 rfl e54 b54 v54 dX12_takeAnswer_169 ?_
        refine xr_i2l (v := x56.toInt64) C dX12_takeAnswer_170 rfl ?_
        obtain ⟨⟨fs57, e57⟩, hm⟩ := hm
        refine xr_cVv (n := 1) (As := [.long x56.toInt64]) (st := []) C (c_X12_more a0 x56.toInt64 h51 0 0 hm) e57 rfl wd_747 wd_749 wd_750 wd_712 wd_748 (by decide +kernel) rfl (by rw [hR.1, hR.2]; decide) (Nat.zero_add _).symm (Nat.zero_add _).symm rfl (Nat.le_of_ble_eq_true rfl) dX12_takeAnswer_171 (fun h59 hn => ?_)
        clear hm
        have hm := hn
        clear hn
        refine xr_aload_n (r := (some a0)) C dX12_takeAnswer_174 0 rfl ?_
        obtain ⟨fs60, r61, e60, f60, hm⟩ := hm
        refine xr_get (ci := 13) C 17 e60 f60 rfl inX12 (by decide) wd_667 dX12_takeAnswer_175 ?_
        refine xr_iconst (v := 2) C dX12_takeAnswer_178 rfl ?_
        obtain ⟨a63, rfl, hm⟩ := hm
        obtain ⟨N62, f62, y64, e62, b62, v62, hm⟩ := hm
        refine xr_lald C 1 rfl e62 b62 v62 dX12_takeAnswer_179 ?_
        refine xr_aload_n (r := (some a0)) C dX12_takeAnswer_180 0 rfl ?_
        obtain ⟨fs65, r66, e65, f65, hm⟩ := hm
        refine xr_get (ci := 13) C 48 e65 f65 rfl inX12 (by decide) wd_695 dX12_takeAnswer_181 ?_
        refine xr_iload_n C dX12_takeAnswer_184 1 rfl ?_
        obtain ⟨a68, rfl, hm⟩ := hm
        obtain ⟨N67, f67, x69, e67, b67, v67, hm⟩ := hm
        refine xr_iald C 0 rfl e67 b67 v67 dX12_takeAnswer_185 ?_
        refine xr_i2l (v := x69.toInt64) C dX12_takeAnswer_186 rfl ?_
        refine xr_lcmp C dX12_takeAnswer_187 ?_
        refine xr_if_ne (tgt := 231) C dX12_takeAnswer_188 (by decide) (fun q70 => ?_) (fun q70 => ?_)
        · replace hm := hm.2 q70
          exact k_X12_takeAnswer_L231 C hr hlk hnm hR a0 xp1 _ _ _ hm
        · replace hm := hm.1 q70
          refine xr_aload_n (r := (some a0)) C dX12_takeAnswer_191 0 rfl ?_
          obtain ⟨fs71, r72, e71, f71, hm⟩ := hm
          refine xr_get (ci := 13) C 17 e71 f71 rfl inX12 (by decide) wd_667 dX12_takeAnswer_192 ?_
          refine xr_bipush (v := 6) C dX12_takeAnswer_195 rfl ?_
          obtain ⟨a74, rfl, hm⟩ := hm
          obtain ⟨N73, f73, y75, e73, b73, v73, hm⟩ := hm
          refine xr_lald C 1 rfl e73 b73 v73 dX12_takeAnswer_197 ?_
          refine xr_aload_n (r := (some a0)) C dX12_takeAnswer_198 0 rfl ?_
          obtain ⟨fs76, r77, e76, f76, hm⟩ := hm
          refine xr_get (ci := 13) C 49 e76 f76 rfl inX12 (by decide) wd_696 dX12_takeAnswer_199 ?_
          refine xr_iload_n C dX12_takeAnswer_202 1 rfl ?_
          obtain ⟨a79, rfl, hm⟩ := hm
          obtain ⟨N78, f78, x80, e78, b78, v78, hm⟩ := hm
          refine xr_iald C 0 rfl e78 b78 v78 dX12_takeAnswer_203 ?_
          refine xr_i2l (v := x80.toInt64) C dX12_takeAnswer_204 rfl ?_
          refine xr_lcmp C dX12_takeAnswer_205 ?_
          refine xr_if_ne (tgt := 231) C dX12_takeAnswer_206 (by decide) (fun q81 => ?_) (fun q81 => ?_)
          · replace hm := hm.2 q81
            exact k_X12_takeAnswer_L231 C hr hlk hnm hR a0 xp1 _ _ _ hm
          · replace hm := hm.1 q81
            refine xr_aload_n (r := (some a0)) C dX12_takeAnswer_209 0 rfl ?_
            refine xr_iconst (v := 0) C dX12_takeAnswer_210 rfl ?_
            refine xr_aload_n (r := (some a0)) C dX12_takeAnswer_211 0 rfl ?_
            obtain ⟨fs82, r83, e82, f82, hm⟩ := hm
            refine xr_get (ci := 13) C 47 e82 f82 rfl inX12 (by decide) wd_694 dX12_takeAnswer_212 ?_
            refine xr_iload_n C dX12_takeAnswer_215 1 rfl ?_
            obtain ⟨a85, rfl, hm⟩ := hm
            obtain ⟨N84, f84, x86, e84, b84, v84, hm⟩ := hm
            refine xr_iald C 0 rfl e84 b84 v84 dX12_takeAnswer_216 ?_
            refine xr_i2l (v := x86.toInt64) C dX12_takeAnswer_217 rfl ?_
            refine xr_aload_n (r := (some a0)) C dX12_takeAnswer_218 0 rfl ?_
            obtain ⟨fs87, r88, e87, f87, hm⟩ := hm
            refine xr_get (ci := 13) C 17 e87 f87 rfl inX12 (by decide) wd_667 dX12_takeAnswer_219 ?_
            refine xr_bipush (v := 8) C dX12_takeAnswer_222 rfl ?_
            obtain ⟨a90, rfl, hm⟩ := hm
            obtain ⟨N89, f89, y91, e89, b89, v89, hm⟩ := hm
            refine xr_lald C 1 rfl e89 b89 v89 dX12_takeAnswer_224 ?_
            obtain ⟨⟨fs92, e92⟩, hm⟩ := hm
            refine xr_cVi (n := 3) (As := [.int 0, .long x86.toInt64, .long y91]) (st := []) C (c_X12_isGood a0 0 x86.toInt64 y91 h59 0 0 hm) e92 rfl wd_756 wd_758 wd_759 wd_712 wd_757 (by decide +kernel) rfl (by rw [hR.1, hR.2]; decide) (Nat.zero_add _).symm (Nat.zero_add _).symm rfl (Nat.le_of_ble_eq_true rfl) dX12_takeAnswer_225 (fun x93 h94 hn => ?_)
            clear hm
            have hm := hn
            clear hn
            refine xr_if_ne (tgt := 238) C dX12_takeAnswer_228 (by decide) (fun q95 => ?_) (fun q95 => ?_)
            · replace hm := hm.2 q95
              refine xr_aload_n (r := (some a0)) C dX12_takeAnswer_238 0 rfl ?_
              refine xr_iload_n C dX12_takeAnswer_239 1 rfl ?_
              refine xr_aload_n (r := (some a0)) C dX12_takeAnswer_240 0 rfl ?_
              obtain ⟨fs96, r97, e96, f96, hm⟩ := hm
              refine xr_get (ci := 13) C 17 e96 f96 rfl inX12 (by decide) wd_667 dX12_takeAnswer_241 ?_
              refine xr_iconst (v := 2) C dX12_takeAnswer_244 rfl ?_
              obtain ⟨a99, rfl, hm⟩ := hm
              obtain ⟨N98, f98, y100, e98, b98, v98, hm⟩ := hm
              refine xr_lald C 1 rfl e98 b98 v98 dX12_takeAnswer_245 ?_
              refine xr_aload_n (r := (some a0)) C dX12_takeAnswer_246 0 rfl ?_
              obtain ⟨fs101, r102, e101, f101, hm⟩ := hm
              refine xr_get (ci := 13) C 17 e101 f101 rfl inX12 (by decide) wd_667 dX12_takeAnswer_247 ?_
              refine xr_bipush (v := 8) C dX12_takeAnswer_250 rfl ?_
              obtain ⟨a104, rfl, hm⟩ := hm
              obtain ⟨N103, f103, y105, e103, b103, v103, hm⟩ := hm
              refine xr_lald C 1 rfl e103 b103 v103 dX12_takeAnswer_252 ?_
              obtain ⟨⟨fs106, e106⟩, hm⟩ := hm
              refine xr_cVv (n := 3) (As := [.int xp1, .long y100, .long y105]) (st := []) C (c_X12_fill a0 xp1 y100 y105 h94 0 0 hm) e106 rfl wd_789 wd_791 wd_792 wd_712 wd_790 (by decide +kernel) rfl (by rw [hR.1, hR.2]; decide) (Nat.zero_add _).symm (Nat.zero_add _).symm rfl (Nat.le_of_ble_eq_true rfl) dX12_takeAnswer_253 (fun h108 hn => ?_)
              clear hm
              have hm := hn
              clear hn
              refine xr_bipush (v := 7) C dX12_takeAnswer_256 rfl ?_
              refine xr_aload_n (r := (some a0)) C dX12_takeAnswer_258 0 rfl ?_
              obtain ⟨fs109, x110, e109, f109, hm⟩ := hm
              refine xr_get (ci := 13) C 53 e109 f109 rfl inX12 (by decide) wd_788 dX12_takeAnswer_259 ?_
              refine xr_imul C dX12_takeAnswer_262 ?_
              refine xr_istore_n (lv' := [(2, .int (7 * x110)), (0, .ref a0), (1, .int xp1)]) C dX12_takeAnswer_263 (by decide) rfl ?_
              refine xr_iconst (v := 0) C dX12_takeAnswer_264 rfl ?_
              refine xr_istore_n (lv' := [(3, .int 0), (2, .int (7 * x110)), (0, .ref a0), (1, .int xp1)]) C dX12_takeAnswer_265 (by decide) rfl ?_
              obtain ⟨n111, hm⟩ := hm
              refine xr_sub [2, 3, 1, 0] rfl ?_
              exact k_X12_takeAnswer_L266 C hr hlk hnm hR n111 a0 xp1 (7 * x110) 0 _ _ _ hm
            · replace hm := hm.1 q95
              exact k_X12_takeAnswer_L231 C hr hlk hnm hR a0 xp1 _ _ _ hm
      · replace hm := hm.1 q18
        refine xr_aload_n (r := (some a0)) C dX12_takeAnswer_45 0 rfl ?_
        refine xr_iload_n C dX12_takeAnswer_46 1 rfl ?_
        refine xr_aload_n (r := (some a0)) C dX12_takeAnswer_47 0 rfl ?_
        obtain ⟨fs112, r113, e112, f112, hm⟩ := hm
        refine xr_get (ci := 13) C 17 e112 f112 rfl inX12 (by decide) wd_667 dX12_takeAnswer_48 ?_
        refine xr_iconst (v := 2) C dX12_takeAnswer_51 rfl ?_
        obtain ⟨a115, rfl, hm⟩ := hm
        obtain ⟨N114, f114, y116, e114, b114, v114, hm⟩ := hm
        refine xr_lald C 1 rfl e114 b114 v114 dX12_takeAnswer_52 ?_
        refine xr_aload_n (r := (some a0)) C dX12_takeAnswer_53 0 rfl ?_
        obtain ⟨fs117, r118, e117, f117, hm⟩ := hm
        refine xr_get (ci := 13) C 17 e117 f117 rfl inX12 (by decide) wd_667 dX12_takeAnswer_54 ?_
        refine xr_bipush (v := 8) C dX12_takeAnswer_57 rfl ?_
        obtain ⟨a120, rfl, hm⟩ := hm
        obtain ⟨N119, f119, y121, e119, b119, v119, hm⟩ := hm
        refine xr_lald C 1 rfl e119 b119 v119 dX12_takeAnswer_59 ?_
        obtain ⟨⟨fs122, e122⟩, hm⟩ := hm
        refine xr_cVv (n := 3) (As := [.int xp1, .long y116, .long y121]) (st := []) C (c_X12_fill a0 xp1 y116 y121 h 0 0 hm) e122 rfl wd_789 wd_791 wd_792 wd_712 wd_790 (by decide +kernel) rfl (by rw [hR.1, hR.2]; decide) (Nat.zero_add _).symm (Nat.zero_add _).symm rfl (Nat.le_of_ble_eq_true rfl) dX12_takeAnswer_60 (fun h124 hn => ?_)
        clear hm
        have hm := hn
        clear hn
        refine xr_aload_n (r := (some a0)) C dX12_takeAnswer_63 0 rfl ?_
        obtain ⟨fs125, r126, e125, f125, hm⟩ := hm
        refine xr_get (ci := 13) C 50 e125 f125 rfl inX12 (by decide) wd_697 dX12_takeAnswer_64 ?_
        refine xr_iload_n C dX12_takeAnswer_67 1 rfl ?_
        refine xr_aload_n (r := (some a0)) C dX12_takeAnswer_68 0 rfl ?_
        obtain ⟨fs127, r128, e127, f127, hm⟩ := hm
        refine xr_get (ci := 13) C 17 e127 f127 rfl inX12 (by decide) wd_667 dX12_takeAnswer_69 ?_
        refine xr_iconst (v := 2) C dX12_takeAnswer_72 rfl ?_
        obtain ⟨a130, rfl, hm⟩ := hm
        obtain ⟨N129, f129, y131, e129, b129, v129, hm⟩ := hm
        refine xr_lald C 1 rfl e129 b129 v129 dX12_takeAnswer_73 ?_
        refine xr_l2i (v := y131.toInt32) C dX12_takeAnswer_74 rfl ?_
        obtain ⟨a133, rfl, hm⟩ := hm
        obtain ⟨N132, f132, e132, b132, h134, v132, hm⟩ := hm
        refine xr_iast C 0 rfl e132 b132 v132 dX12_takeAnswer_75 ?_
        refine xr_aload_n (r := (some a0)) C dX12_takeAnswer_76 0 rfl ?_
        refine xr_iload_n C dX12_takeAnswer_77 1 rfl ?_
        refine xr_bipush (v := 7) C dX12_takeAnswer_78 rfl ?_
        obtain ⟨⟨fs135, e135⟩, hm⟩ := hm
        refine xr_cVv (n := 2) (As := [.int xp1, .int 7]) (st := []) C (c_X12_sign a0 xp1 7 h134 0 0 hm) e135 rfl wd_793 wd_795 wd_796 wd_712 wd_794 (by decide +kernel) rfl (by rw [hR.1, hR.2]; decide) (Nat.zero_add _).symm (Nat.zero_add _).symm rfl (Nat.le_of_ble_eq_true rfl) dX12_takeAnswer_80 (fun h137 hn => ?_)
        clear hm
        have hm := hn
        clear hn
        refine xr_aload_n (r := (some a0)) C dX12_takeAnswer_83 0 rfl ?_
        refine xr_bipush (v := 7) C dX12_takeAnswer_84 rfl ?_
        refine xr_iconst (v := 1) C dX12_takeAnswer_86 rfl ?_
        refine xr_iload_n C dX12_takeAnswer_87 1 rfl ?_
        refine xr_iconst (v := 2) C dX12_takeAnswer_88 rfl ?_
        refine xr_iconst (v := 0) C dX12_takeAnswer_89 rfl ?_
        obtain ⟨⟨fs138, e138⟩, hm⟩ := hm
        refine xr_cVi (n := 5) (As := [.int 7, .int 1, .int xp1, .int 2, .int 0]) (st := []) C (c_X12_send a0 7 1 xp1 2 0 h137 0 0 hm) e138 rfl wd_728 wd_730 wd_731 wd_712 wd_729 (by decide +kernel) rfl (by rw [hR.1, hR.2]; decide) (Nat.zero_add _).symm (Nat.zero_add _).symm rfl (Nat.le_of_ble_eq_true rfl) dX12_takeAnswer_90 (fun x139 h140 hn => ?_)
        clear hm
        have hm := hn
        clear hn
        refine xr_pop C dX12_takeAnswer_93 rfl ?_
        refine xr_aload_n (r := (some a0)) C dX12_takeAnswer_94 0 rfl ?_
        obtain ⟨fs141, r142, e141, f141, hm⟩ := hm
        refine xr_get (ci := 13) C 41 e141 f141 rfl inX12 (by decide) wd_688 dX12_takeAnswer_95 ?_
        refine xr_iload_n C dX12_takeAnswer_98 1 rfl ?_
        refine xr_bipush (v := 8) C dX12_takeAnswer_99 rfl ?_
        obtain ⟨a144, rfl, hm⟩ := hm
        obtain ⟨N143, f143, e143, b143, h145, v143, hm⟩ := hm
        refine xr_iast C 0 rfl e143 b143 v143 dX12_takeAnswer_101 ?_
        refine xr_aload_n (r := (some a0)) C dX12_takeAnswer_102 0 rfl ?_
        obtain ⟨fs146, r147, e146, f146, hm⟩ := hm
        refine xr_get (ci := 13) C 42 e146 f146 rfl inX12 (by decide) wd_689 dX12_takeAnswer_103 ?_
        refine xr_iload_n C dX12_takeAnswer_106 1 rfl ?_
        refine xr_aload_n (r := (some a0)) C dX12_takeAnswer_107 0 rfl ?_
        obtain ⟨fs148, y149, e148, f148, hm⟩ := hm
        refine xr_get (ci := 13) C 52 e148 f148 rfl inX12 (by decide) wd_774 dX12_takeAnswer_108 ?_
        obtain ⟨a151, rfl, hm⟩ := hm
        obtain ⟨N150, f150, e150, b150, h152, v150, hm⟩ := hm
        refine xr_last C 1 rfl e150 b150 v150 dX12_takeAnswer_111 ?_
        exact xr_vreturn C hr hlk hm dX12_takeAnswer_112
    · replace hm := hm.2 q12
      exact k_X12_takeAnswer_L26 C hr hlk hnm hR a0 xp1 _ _ _ hm
