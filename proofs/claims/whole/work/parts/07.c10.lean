set_option maxRecDepth 100000 in
set_option maxHeartbeats 4000000 in
theorem k_X12_deliver_L154 {p : Program} {l : Launch} {e : Env} {R : Room} {s : State} {m : MethodId} {args : Array Value} {below : List Frame} {meth : Method} {c : Code} {D : va_G} {E : Ev} {A : Nat → Prop} {KC KS : Nat} (C : XC p R s m args c D E A 6 RX12 cX12_deliver KC KS) (hr : meth.sig.returnType = (some .int)) (hlk : meth.locks = false) (hnm : meth.name = "deliver") (hR : R.frames = 6 ∧ R.locals = 143) {Q : Int32 → Hp → Prop} : ∀ (s0 : Int32) (h : Hp) (kc ks : Nat), m_X12_deliver_L154 E s0 h kc ks Q → XW p l e R s m args below meth c (MQ below (va_Qi Q (XPost D A) A) args s KC KS A) D A KC KS 6 h kc ks [] 154 [.int s0] := by
  intro s0 h kc ks hm
  refine xr_istore (lv' := [(5, .int s0)]) C dX12_deliver_154 (by decide) rfl ?_
  refine xr_iload C dX12_deliver_156 0 rfl ?_
  refine xr_if_eq (tgt := 165) C dX12_deliver_158 (by decide) (fun q69 => ?_) (fun q69 => ?_)
  · replace hm := hm.1 q69
    refine xr_iconst (v := 0) C dX12_deliver_165 rfl ?_
    exact xr_ireturn C hr hlk hm dX12_deliver_166
  · replace hm := hm.2 q69
    refine xr_iconst (v := 1) C dX12_deliver_161 rfl ?_
    refine xr_goto (tgt := 166) C dX12_deliver_162 (by decide) ?_
    exact xr_ireturn C hr hlk hm dX12_deliver_166
set_option maxRecDepth 100000 in
set_option maxHeartbeats 4000000 in
theorem k_X12_deliver_L149 {p : Program} {l : Launch} {e : Env} {R : Room} {s : State} {m : MethodId} {args : Array Value} {below : List Frame} {meth : Method} {c : Code} {D : va_G} {E : Ev} {A : Nat → Prop} {KC KS : Nat} (C : XC p R s m args c D E A 6 RX12 cX12_deliver KC KS) (hr : meth.sig.returnType = (some .int)) (hlk : meth.locks = false) (hnm : meth.name = "deliver") (hR : R.frames = 6 ∧ R.locals = 143) {Q : Int32 → Hp → Prop} : ∀  (h : Hp) (kc ks : Nat), m_X12_deliver_L149 E  h kc ks Q → XW p l e R s m args below meth c (MQ below (va_Qi Q (XPost D A) A) args s KC KS A) D A KC KS 6 h kc ks [] 149 [] := by
  intro  h kc ks hm
  refine xr_iconst (v := 1) C dX12_deliver_149 rfl ?_
  refine xr_goto (tgt := 154) C dX12_deliver_150 (by decide) ?_
  exact k_X12_deliver_L154 C hr hlk hnm hR 1 _ _ _ hm
set_option maxRecDepth 100000 in
set_option maxHeartbeats 4000000 in
theorem k_X12_deliver_L153 {p : Program} {l : Launch} {e : Env} {R : Room} {s : State} {m : MethodId} {args : Array Value} {below : List Frame} {meth : Method} {c : Code} {D : va_G} {E : Ev} {A : Nat → Prop} {KC KS : Nat} (C : XC p R s m args c D E A 6 RX12 cX12_deliver KC KS) (hr : meth.sig.returnType = (some .int)) (hlk : meth.locks = false) (hnm : meth.name = "deliver") (hR : R.frames = 6 ∧ R.locals = 143) {Q : Int32 → Hp → Prop} : ∀  (h : Hp) (kc ks : Nat), m_X12_deliver_L153 E  h kc ks Q → XW p l e R s m args below meth c (MQ below (va_Qi Q (XPost D A) A) args s KC KS A) D A KC KS 6 h kc ks [] 153 [] := by
  intro  h kc ks hm
  refine xr_iconst (v := 0) C dX12_deliver_153 rfl ?_
  exact k_X12_deliver_L154 C hr hlk hnm hR 0 _ _ _ hm
set_option maxRecDepth 100000 in
set_option maxHeartbeats 4000000 in
theorem k_X12_deliver_L57 {p : Program} {l : Launch} {e : Env} {R : Room} {s : State} {m : MethodId} {args : Array Value} {below : List Frame} {meth : Method} {c : Code} {D : va_G} {E : Ev} {A : Nat → Prop} {KC KS : Nat} (C : XC p R s m args c D E A 6 RX12 cX12_deliver KC KS) (hr : meth.sig.returnType = (some .int)) (hlk : meth.locks = false) (hnm : meth.name = "deliver") (hR : R.frames = 6 ∧ R.locals = 143) {Q : Int32 → Hp → Prop} : ∀ (n : Nat) (a0 : Nat) (xv1 : Int32) (xv2 : Int32) (xv3 : Int32) (xv4 : Int32) (h : Hp) (kc ks : Nat), m_X12_deliver_L57 n E a0 xv1 xv2 xv3 xv4 h kc ks Q → XW p l e R s m args below meth c (MQ below (va_Qi Q (XPost D A) A) args s KC KS A) D A KC KS 6 h kc ks [(0, .ref a0), (1, .int xv1), (2, .int xv2), (3, .int xv3), (4, .int xv4)] 57 [] := by
  intro n
  induction n with
  | zero => intro a0 xv1 xv2 xv3 xv4 h kc ks hm; exact False.elim hm
  | succ n ih =>
    intro a0 xv1 xv2 xv3 xv4 h kc ks hm
    refine xr_iload C dX12_deliver_57 4 rfl ?_
    refine xr_bipush (v := 64) C dX12_deliver_59 rfl ?_
    refine xr_icmp_ge (tgt := 89) C dX12_deliver_61 (by decide) (fun q37 => ?_) (fun q37 => ?_)
    · replace hm := hm.1 q37
      refine xr_aload_n (r := (some a0)) C dX12_deliver_89 0 rfl ?_
      refine xr_iload_n C dX12_deliver_90 1 rfl ?_
      obtain ⟨⟨fs38, e38⟩, hm⟩ := hm
      refine xr_cVv (n := 1) (As := [.int xv1]) (st := []) C (c_X12_remove a0 xv1 h 0 0 hm) e38 rfl wd_843 wd_845 wd_846 wd_712 wd_844 (by decide +kernel) rfl (by rw [hR.1, hR.2]; decide) (Nat.zero_add _).symm (Nat.zero_add _).symm rfl (Nat.le_of_ble_eq_true rfl) dX12_deliver_91 (fun h40 hn => ?_)
      clear hm
      have hm := hn
      clear hn
      refine xr_aload_n (r := (some a0)) C dX12_deliver_94 0 rfl ?_
      obtain ⟨⟨fs41, e41⟩, hm⟩ := hm
      refine xr_cVi (n := 0) (As := []) (st := []) C (c_X12_read a0 h40 0 0 hm) e41 rfl wd_839 wd_841 wd_842 wd_712 wd_840 (by decide +kernel) rfl (by rw [hR.1, hR.2]; decide) (Nat.zero_add _).symm (Nat.zero_add _).symm rfl (Nat.le_of_ble_eq_true rfl) dX12_deliver_95 (fun x42 h43 hn => ?_)
      clear hm
      have hm := hn
      clear hn
      refine xr_istore (lv' := [(4, .int x42), (0, .ref a0), (1, .int xv1), (2, .int xv2), (3, .int xv3)]) C dX12_deliver_98 (by decide) rfl ?_
      refine xr_iload C dX12_deliver_100 0 rfl ?_
      refine xr_if_eq (tgt := 153) C dX12_deliver_102 (by decide) (fun q44 => ?_) (fun q44 => ?_)
      · replace hm := hm.1 q44
        refine xr_sub [] rfl ?_
        exact k_X12_deliver_L153 C hr hlk hnm hR _ _ _ hm
      · replace hm := hm.2 q44
        refine xr_iload_n C dX12_deliver_105 3 rfl ?_
        refine xr_if_ne (tgt := 122) C dX12_deliver_106 (by decide) (fun q45 => ?_) (fun q45 => ?_)
        · replace hm := hm.2 q45
          refine xr_iload_n C dX12_deliver_122 3 rfl ?_
          refine xr_iconst (v := 1) C dX12_deliver_123 rfl ?_
          refine xr_icmp_ne (tgt := 140) C dX12_deliver_124 (by decide) (fun q46 => ?_) (fun q46 => ?_)
          · replace hm := hm.2 q46
            refine xr_aload_n (r := (some a0)) C dX12_deliver_140 1 rfl ?_
            refine xr_iload C dX12_deliver_141 0 rfl ?_
            obtain ⟨⟨fs47, e47⟩, hm⟩ := hm
            refine xr_cVi (n := 1) (As := [.int x42]) (st := []) C (c_X12_toHost a0 x42 h43 0 0 hm) e47 rfl wd_827 wd_829 wd_830 wd_712 wd_828 (by decide +kernel) rfl (by rw [hR.1, hR.2]; decide) (Nat.zero_add _).symm (Nat.zero_add _).symm rfl (Nat.le_of_ble_eq_true rfl) dX12_deliver_143 (fun x48 h49 hn => ?_)
            clear hm
            have hm := hn
            clear hn
            refine xr_if_eq (tgt := 153) C dX12_deliver_146 (by decide) (fun q50 => ?_) (fun q50 => ?_)
            · replace hm := hm.1 q50
              refine xr_sub [] rfl ?_
              exact k_X12_deliver_L153 C hr hlk hnm hR _ _ _ hm
            · replace hm := hm.2 q50
              refine xr_sub [] rfl ?_
              exact k_X12_deliver_L149 C hr hlk hnm hR _ _ _ hm
          · replace hm := hm.1 q46
            refine xr_aload_n (r := (some a0)) C dX12_deliver_127 1 rfl ?_
            refine xr_iload_n C dX12_deliver_128 4 rfl ?_
            refine xr_iload C dX12_deliver_129 0 rfl ?_
            obtain ⟨⟨fs51, e51⟩, hm⟩ := hm
            refine xr_cVi (n := 2) (As := [.int xv3, .int x42]) (st := []) C (c_X12_toTerminal a0 xv3 x42 h43 0 0 hm) e51 rfl wd_831 wd_833 wd_834 wd_712 wd_832 (by decide +kernel) rfl (by rw [hR.1, hR.2]; decide) (Nat.zero_add _).symm (Nat.zero_add _).symm rfl (Nat.le_of_ble_eq_true rfl) dX12_deliver_131 (fun x52 h53 hn => ?_)
            clear hm
            have hm := hn
            clear hn
            refine xr_if_eq (tgt := 153) C dX12_deliver_134 (by decide) (fun q54 => ?_) (fun q54 => ?_)
            · replace hm := hm.1 q54
              refine xr_sub [] rfl ?_
              exact k_X12_deliver_L153 C hr hlk hnm hR _ _ _ hm
            · replace hm := hm.2 q54
              refine xr_goto (tgt := 149) C dX12_deliver_137 (by decide) ?_
              refine xr_sub [] rfl ?_
              exact k_X12_deliver_L149 C hr hlk hnm hR _ _ _ hm
        · replace hm := hm.1 q45
          refine xr_aload_n (r := (some a0)) C dX12_deliver_109 1 rfl ?_
          refine xr_iload_n C dX12_deliver_110 4 rfl ?_
          refine xr_iload C dX12_deliver_111 0 rfl ?_
          obtain ⟨⟨fs55, e55⟩, hm⟩ := hm
          refine xr_cVi (n := 2) (As := [.int xv3, .int x42]) (st := []) C (c_X12_toCard a0 xv3 x42 h43 0 0 hm) e55 rfl wd_835 wd_837 wd_838 wd_712 wd_836 (by decide +kernel) rfl (by rw [hR.1, hR.2]; decide) (Nat.zero_add _).symm (Nat.zero_add _).symm rfl (Nat.le_of_ble_eq_true rfl) dX12_deliver_113 (fun x56 h57 hn => ?_)
          clear hm
          have hm := hn
          clear hn
          refine xr_if_eq (tgt := 153) C dX12_deliver_116 (by decide) (fun q58 => ?_) (fun q58 => ?_)
          · replace hm := hm.1 q58
            refine xr_sub [] rfl ?_
            exact k_X12_deliver_L153 C hr hlk hnm hR _ _ _ hm
          · replace hm := hm.2 q58
            refine xr_goto (tgt := 149) C dX12_deliver_119 (by decide) ?_
            refine xr_sub [] rfl ?_
            exact k_X12_deliver_L149 C hr hlk hnm hR _ _ _ hm
    · replace hm := hm.2 q37
      refine xr_aload_n (r := (some a0)) C dX12_deliver_64 0 rfl ?_
      obtain ⟨fs59, r60, e59, f59, hm⟩ := hm
      refine xr_get (ci := 13) C 15 e59 f59 rfl inX12 (by decide) wd_666 dX12_deliver_65 ?_
      refine xr_iload C dX12_deliver_68 4 rfl ?_
      refine xr_aload_n (r := (some a0)) C dX12_deliver_70 0 rfl ?_
      obtain ⟨fs61, r62, e61, f61, hm⟩ := hm
      refine xr_get (ci := 13) C 12 e61 f61 rfl inX12 (by decide) wd_665 dX12_deliver_71 ?_
      refine xr_bipush (v := 64) C dX12_deliver_74 rfl ?_
      refine xr_iload_n C dX12_deliver_76 1 rfl ?_
      refine xr_imul C dX12_deliver_77 ?_
      refine xr_iload C dX12_deliver_78 4 rfl ?_
      refine xr_iadd C dX12_deliver_80 ?_
      obtain ⟨a64, rfl, hm⟩ := hm
      obtain ⟨N63, f63, x65, e63, b63, v63, hm⟩ := hm
      refine xr_iald C 0 rfl e63 b63 v63 dX12_deliver_81 ?_
      obtain ⟨a67, rfl, hm⟩ := hm
      obtain ⟨N66, f66, e66, b66, h68, v66, hm⟩ := hm
      refine xr_iast C 0 rfl e66 b66 v66 dX12_deliver_82 ?_
      refine xr_iinc (j := 4) (v := xv4 + 1) (lv' := [(4, .int (xv4 + 1)), (0, .ref a0), (1, .int xv1), (2, .int xv2), (3, .int xv3)]) C dX12_deliver_83 rfl rfl (by decide) rfl ?_
      refine xr_goto (tgt := 57) C dX12_deliver_86 (by decide) ?_
      refine xr_sub [1, 2, 3, 4, 0] rfl ?_
      exact ih a0 xv1 xv2 xv3 (xv4 + 1) _ _ _ hm
set_option maxRecDepth 100000 in
set_option maxHeartbeats 4000000 in
theorem c_X12_deliver {l : Launch} {D : va_G} {E : Ev} (a0 : Nat) (xp1 : Int32) (h : Hp) (kc ks : Nat) {Q : Int32 → Hp → Prop} (hm : m_X12_deliver E a0 xp1 h kc ks Q) : XMet l yX12_deliver cX12_deliver 6 (some .int) 6 143 kc ks D E h [.ref a0, .int xp1] (fun A => va_Qi Q (XPost D A) A) := by
  refine xm_of (lv0 := [(0, .ref a0), (1, .int xp1)]) (by decide) (Nat.le_of_ble_eq_true rfl) rfl RX12 rfl (fun p e s m args below meth c A R hRm C hr hlk hnm => ?_)
  have hR : R.frames = 6 ∧ R.locals = 143 := by rw [hRm]; exact ⟨rfl, rfl⟩
  refine xr_aload_n (r := (some a0)) C dX12_deliver_0 0 rfl ?_
  refine xr_iload_n C dX12_deliver_1 1 rfl ?_
  obtain ⟨⟨fs1, e1⟩, hm⟩ := hm
  refine xr_cVi (n := 1) (As := [.int xp1]) (st := []) C (c_X12_isMessage a0 xp1 h 0 0 hm) e1 rfl wd_823 wd_825 wd_826 wd_712 wd_824 (by decide +kernel) rfl (by rw [hR.1, hR.2]; decide) (Nat.zero_add _).symm (Nat.zero_add _).symm rfl (Nat.le_of_ble_eq_true rfl) dX12_deliver_2 (fun x2 h3 hn => ?_)
  clear hm
  have hm := hn
  clear hn
  refine xr_if_ne (tgt := 10) C dX12_deliver_5 (by decide) (fun q4 => ?_) (fun q4 => ?_)
  · replace hm := hm.2 q4
    refine xr_aload_n (r := (some a0)) C dX12_deliver_10 0 rfl ?_
    obtain ⟨fs5, r6, e5, f5, hm⟩ := hm
    refine xr_get (ci := 13) C 9 e5 f5 rfl inX12 (by decide) wd_662 dX12_deliver_11 ?_
    refine xr_iload_n C dX12_deliver_14 1 rfl ?_
    obtain ⟨a8, rfl, hm⟩ := hm
    obtain ⟨N7, f7, x9, e7, b7, v7, hm⟩ := hm
    refine xr_iald C 0 rfl e7 b7 v7 dX12_deliver_15 ?_
    refine xr_istore_n (lv' := [(2, .int x9), (0, .ref a0), (1, .int xp1)]) C dX12_deliver_16 (by decide) rfl ?_
    refine xr_aload_n (r := (some a0)) C dX12_deliver_17 1 rfl ?_
    obtain ⟨fs10, r11, e10, f10, hm⟩ := hm
    refine xr_get (ci := 13) C 10 e10 f10 rfl inX12 (by decide) wd_663 dX12_deliver_18 ?_
    refine xr_iload_n C dX12_deliver_21 2 rfl ?_
    obtain ⟨a13, rfl, hm⟩ := hm
    obtain ⟨N12, f12, x14, e12, b12, v12, hm⟩ := hm
    refine xr_iald C 0 rfl e12 b12 v12 dX12_deliver_22 ?_
    refine xr_istore_n (lv' := [(3, .int x14), (2, .int x9), (0, .ref a0), (1, .int xp1)]) C dX12_deliver_23 (by decide) rfl ?_
    refine xr_aload_n (r := (some a0)) C dX12_deliver_24 2 rfl ?_
    refine xr_aload_n (r := (some a0)) C dX12_deliver_25 2 rfl ?_
    obtain ⟨fs15, r16, e15, f15, hm⟩ := hm
    refine xr_get (ci := 13) C 7 e15 f15 rfl inX12 (by decide) wd_660 dX12_deliver_26 ?_
    refine xr_iload_n C dX12_deliver_29 3 rfl ?_
    obtain ⟨a18, rfl, hm⟩ := hm
    obtain ⟨N17, f17, x19, e17, b17, v17, hm⟩ := hm
    refine xr_iald C 0 rfl e17 b17 v17 dX12_deliver_30 ?_
    obtain ⟨fs20, e20, f20, h21, eh20, hm⟩ := hm
    refine xr_put (ci := 13) (v := .int x19) C 13 .int tyX12 tyX12_ok nmX12 e20 f20 rfl inX12 (by decide) wd_726 rfl (by decide) rfl rfl eh20 dX12_deliver_31 ?_
    refine xr_aload_n (r := (some a0)) C dX12_deliver_34 2 rfl ?_
    refine xr_aload_n (r := (some a0)) C dX12_deliver_35 2 rfl ?_
    obtain ⟨fs22, r23, e22, f22, hm⟩ := hm
    refine xr_get (ci := 13) C 8 e22 f22 rfl inX12 (by decide) wd_661 dX12_deliver_36 ?_
    refine xr_iload_n C dX12_deliver_39 3 rfl ?_
    obtain ⟨a25, rfl, hm⟩ := hm
    obtain ⟨N24, f24, x26, e24, b24, v24, hm⟩ := hm
    refine xr_iald C 0 rfl e24 b24 v24 dX12_deliver_40 ?_
    obtain ⟨fs27, e27, f27, h28, eh27, hm⟩ := hm
    refine xr_put (ci := 13) (v := .int x26) C 14 .int tyX12 tyX12_ok nmX12 e27 f27 rfl inX12 (by decide) wd_727 rfl (by decide) rfl rfl eh27 dX12_deliver_41 ?_
    refine xr_aload_n (r := (some a0)) C dX12_deliver_44 2 rfl ?_
    refine xr_aload_n (r := (some a0)) C dX12_deliver_45 2 rfl ?_
    obtain ⟨fs29, r30, e29, f29, hm⟩ := hm
    refine xr_get (ci := 13) C 11 e29 f29 rfl inX12 (by decide) wd_664 dX12_deliver_46 ?_
    refine xr_iload_n C dX12_deliver_49 3 rfl ?_
    obtain ⟨a32, rfl, hm⟩ := hm
    obtain ⟨N31, f31, x33, e31, b31, v31, hm⟩ := hm
    refine xr_iald C 0 rfl e31 b31 v31 dX12_deliver_50 ?_
    obtain ⟨fs34, e34, f34, h35, eh34, hm⟩ := hm
    refine xr_put (ci := 13) (v := .int x33) C 16 .int tyX12 tyX12_ok nmX12 e34 f34 rfl inX12 (by decide) wd_724 rfl (by decide) rfl rfl eh34 dX12_deliver_51 ?_
    refine xr_iconst (v := 0) C dX12_deliver_54 rfl ?_
    refine xr_istore (lv' := [(4, .int 0), (3, .int x14), (2, .int x9), (0, .ref a0), (1, .int xp1)]) C dX12_deliver_55 (by decide) rfl ?_
    obtain ⟨n36, hm⟩ := hm
    refine xr_sub [3, 4, 2, 1, 0] rfl ?_
    exact k_X12_deliver_L57 C hr hlk hnm hR n36 a0 xp1 x9 x14 0 _ _ _ hm
  · replace hm := hm.1 q4
    refine xr_iconst (v := (-1)) C dX12_deliver_8 rfl ?_
    exact xr_ireturn C hr hlk hm dX12_deliver_9
set_option maxRecDepth 100000 in
set_option maxHeartbeats 4000000 in
theorem c_X12_card {l : Launch} {D : va_G} {E : Ev} (a0 : Nat) (xp1 : Int32) (yp2 : Int64) (xp4 : Int32) (yp5 : Int64) (h : Hp) (kc ks : Nat) {Q : Int32 → Hp → Prop} (hm : m_X12_card E a0 xp1 yp2 xp4 yp5 h kc ks Q) : XMet l yX12_card cX12_card 7 (some .int) 1 25 kc ks D E h [.ref a0, .int xp1, .long yp2, .int xp4, .long yp5] (fun A => va_Qi Q (XPost D A) A) := by
  refine xm_of (lv0 := [(0, .ref a0), (1, .int xp1), (2, .long yp2), (4, .int xp4), (5, .long yp5)]) (by decide) (Nat.le_of_ble_eq_true rfl) rfl RX12 rfl (fun p e s m args below meth c A R hRm C hr hlk hnm => ?_)
  have hR : R.frames = 1 ∧ R.locals = 25 := by rw [hRm]; exact ⟨rfl, rfl⟩
  refine xr_aload_n (r := (some a0)) C dX12_card_0 0 rfl ?_
  obtain ⟨fs1, x2, e1, f1, hm⟩ := hm
  refine xr_get (ci := 13) C 21 e1 f1 rfl inX12 (by decide) wd_779 dX12_card_1 ?_
  refine xr_bipush (v := 16) C dX12_card_4 rfl ?_
  refine xr_icmp_eq (tgt := 57) C dX12_card_6 (by decide) (fun q3 => ?_) (fun q3 => ?_)
  · replace hm := hm.1 q3
    refine xr_iconst (v := (-1)) C dX12_card_57 rfl ?_
    exact xr_ireturn C hr hlk hm dX12_card_58
  · replace hm := hm.2 q3
    refine xr_iload_n C dX12_card_9 1 rfl ?_
    refine xr_i2l (v := xp1.toInt64) C dX12_card_10 rfl ?_
    refine xr_lconst (v := 0) C dX12_card_11 rfl ?_
    refine xr_ldc2 (v := 9999) C dX12_card_12 wd_847 ?_
    refine xr_cSi (n := 3) (As := [.long xp1.toInt64, .long 0, .long 9999]) (st := []) C (c_X12_isIn xp1.toInt64 0 9999 h 0 0 hm) wd_851 wd_853 wd_712 wd_852 (by decide +kernel) rfl (by rw [hR.1, hR.2]; decide) (Nat.zero_add _).symm (Nat.zero_add _).symm rfl (Nat.le_of_ble_eq_true rfl) dX12_card_15 (fun x5 h6 hn => ?_)
    clear hm
    have hm := hn
    clear hn
    refine xr_if_eq (tgt := 57) C dX12_card_18 (by decide) (fun q7 => ?_) (fun q7 => ?_)
    · replace hm := hm.1 q7
      refine xr_iconst (v := (-1)) C dX12_card_57 rfl ?_
      exact xr_ireturn C hr hlk hm dX12_card_58
    · replace hm := hm.2 q7
      refine xr_lload_n C dX12_card_21 2 rfl ?_
      refine xr_lconst (v := 0) C dX12_card_22 rfl ?_
      refine xr_ldc2 (v := 1000000000) C dX12_card_23 wd_848 ?_
      refine xr_cSi (n := 3) (As := [.long yp2, .long 0, .long 1000000000]) (st := []) C (c_X12_isIn yp2 0 1000000000 h6 0 0 hm) wd_851 wd_853 wd_712 wd_852 (by decide +kernel) rfl (by rw [hR.1, hR.2]; decide) (Nat.zero_add _).symm (Nat.zero_add _).symm rfl (Nat.le_of_ble_eq_true rfl) dX12_card_26 (fun x9 h10 hn => ?_)
      clear hm
      have hm := hn
      clear hn
      refine xr_if_eq (tgt := 57) C dX12_card_29 (by decide) (fun q11 => ?_) (fun q11 => ?_)
      · replace hm := hm.1 q11
        refine xr_iconst (v := (-1)) C dX12_card_57 rfl ?_
        exact xr_ireturn C hr hlk hm dX12_card_58
      · replace hm := hm.2 q11
        refine xr_iload C dX12_card_32 3 rfl ?_
        refine xr_i2l (v := xp4.toInt64) C dX12_card_34 rfl ?_
        refine xr_lconst (v := 0) C dX12_card_35 rfl ?_
        refine xr_ldc2 (v := 9) C dX12_card_36 wd_849 ?_
        refine xr_cSi (n := 3) (As := [.long xp4.toInt64, .long 0, .long 9]) (st := []) C (c_X12_isIn xp4.toInt64 0 9 h10 0 0 hm) wd_851 wd_853 wd_712 wd_852 (by decide +kernel) rfl (by rw [hR.1, hR.2]; decide) (Nat.zero_add _).symm (Nat.zero_add _).symm rfl (Nat.le_of_ble_eq_true rfl) dX12_card_39 (fun x13 h14 hn => ?_)
        clear hm
        have hm := hn
        clear hn
        refine xr_if_eq (tgt := 57) C dX12_card_42 (by decide) (fun q15 => ?_) (fun q15 => ?_)
        · replace hm := hm.1 q15
          refine xr_iconst (v := (-1)) C dX12_card_57 rfl ?_
          exact xr_ireturn C hr hlk hm dX12_card_58
        · replace hm := hm.2 q15
          refine xr_lload C dX12_card_45 4 rfl ?_
          refine xr_lconst (v := 0) C dX12_card_47 rfl ?_
          refine xr_ldc2 (v := 1000000000000) C dX12_card_48 wd_850 ?_
          refine xr_cSi (n := 3) (As := [.long yp5, .long 0, .long 1000000000000]) (st := []) C (c_X12_isIn yp5 0 1000000000000 h14 0 0 hm) wd_851 wd_853 wd_712 wd_852 (by decide +kernel) rfl (by rw [hR.1, hR.2]; decide) (Nat.zero_add _).symm (Nat.zero_add _).symm rfl (Nat.le_of_ble_eq_true rfl) dX12_card_51 (fun x17 h18 hn => ?_)
          clear hm
          have hm := hn
          clear hn
          refine xr_if_ne (tgt := 59) C dX12_card_54 (by decide) (fun q19 => ?_) (fun q19 => ?_)
          · replace hm := hm.2 q19
            refine xr_aload_n (r := (some a0)) C dX12_card_59 0 rfl ?_
            obtain ⟨fs20, r21, e20, f20, hm⟩ := hm
            refine xr_get (ci := 13) C 22 e20 f20 rfl inX12 (by decide) wd_670 dX12_card_60 ?_
            refine xr_aload_n (r := (some a0)) C dX12_card_63 0 rfl ?_
            obtain ⟨fs22, x23, e22, f22, hm⟩ := hm
            refine xr_get (ci := 13) C 21 e22 f22 rfl inX12 (by decide) wd_779 dX12_card_64 ?_
            refine xr_iload_n C dX12_card_67 1 rfl ?_
            obtain ⟨a25, rfl, hm⟩ := hm
            obtain ⟨N24, f24, e24, b24, h26, v24, hm⟩ := hm
            refine xr_iast C 0 rfl e24 b24 v24 dX12_card_68 ?_
            refine xr_aload_n (r := (some a0)) C dX12_card_69 0 rfl ?_
            obtain ⟨fs27, r28, e27, f27, hm⟩ := hm
            refine xr_get (ci := 13) C 23 e27 f27 rfl inX12 (by decide) wd_671 dX12_card_70 ?_
            refine xr_aload_n (r := (some a0)) C dX12_card_73 0 rfl ?_
            obtain ⟨fs29, x30, e29, f29, hm⟩ := hm
            refine xr_get (ci := 13) C 21 e29 f29 rfl inX12 (by decide) wd_779 dX12_card_74 ?_
            refine xr_lload_n C dX12_card_77 2 rfl ?_
            obtain ⟨a32, rfl, hm⟩ := hm
            obtain ⟨N31, f31, e31, b31, h33, v31, hm⟩ := hm
            refine xr_last C 1 rfl e31 b31 v31 dX12_card_78 ?_
            refine xr_aload_n (r := (some a0)) C dX12_card_79 0 rfl ?_
            obtain ⟨fs34, r35, e34, f34, hm⟩ := hm
            refine xr_get (ci := 13) C 24 e34 f34 rfl inX12 (by decide) wd_672 dX12_card_80 ?_
            refine xr_aload_n (r := (some a0)) C dX12_card_83 0 rfl ?_
            obtain ⟨fs36, x37, e36, f36, hm⟩ := hm
            refine xr_get (ci := 13) C 21 e36 f36 rfl inX12 (by decide) wd_779 dX12_card_84 ?_
            refine xr_iload C dX12_card_87 3 rfl ?_
            obtain ⟨a39, rfl, hm⟩ := hm
            obtain ⟨N38, f38, e38, b38, h40, v38, hm⟩ := hm
            refine xr_iast C 0 rfl e38 b38 v38 dX12_card_89 ?_
            refine xr_aload_n (r := (some a0)) C dX12_card_90 0 rfl ?_
            obtain ⟨fs41, r42, e41, f41, hm⟩ := hm
            refine xr_get (ci := 13) C 25 e41 f41 rfl inX12 (by decide) wd_673 dX12_card_91 ?_
            refine xr_aload_n (r := (some a0)) C dX12_card_94 0 rfl ?_
            obtain ⟨fs43, x44, e43, f43, hm⟩ := hm
            refine xr_get (ci := 13) C 21 e43 f43 rfl inX12 (by decide) wd_779 dX12_card_95 ?_
            refine xr_lload C dX12_card_98 4 rfl ?_
            obtain ⟨a46, rfl, hm⟩ := hm
            obtain ⟨N45, f45, e45, b45, h47, v45, hm⟩ := hm
            refine xr_last C 1 rfl e45 b45 v45 dX12_card_100 ?_
            refine xr_aload_n (r := (some a0)) C dX12_card_101 0 rfl ?_
            obtain ⟨fs48, r49, e48, f48, hm⟩ := hm
            refine xr_get (ci := 13) C 28 e48 f48 rfl inX12 (by decide) wd_676 dX12_card_102 ?_
            refine xr_aload_n (r := (some a0)) C dX12_card_105 0 rfl ?_
            obtain ⟨fs50, x51, e50, f50, hm⟩ := hm
            refine xr_get (ci := 13) C 21 e50 f50 rfl inX12 (by decide) wd_779 dX12_card_106 ?_
            refine xr_iconst (v := 3) C dX12_card_109 rfl ?_
            obtain ⟨a53, rfl, hm⟩ := hm
            obtain ⟨N52, f52, e52, b52, h54, v52, hm⟩ := hm
            refine xr_iast C 0 rfl e52 b52 v52 dX12_card_110 ?_
            refine xr_aload_n (r := (some a0)) C dX12_card_111 0 rfl ?_
            obtain ⟨fs55, r56, e55, f55, hm⟩ := hm
            refine xr_get (ci := 13) C 35 e55 f55 rfl inX12 (by decide) wd_683 dX12_card_112 ?_
            refine xr_aload_n (r := (some a0)) C dX12_card_115 0 rfl ?_
            obtain ⟨fs57, x58, e57, f57, hm⟩ := hm
            refine xr_get (ci := 13) C 21 e57 f57 rfl inX12 (by decide) wd_779 dX12_card_116 ?_
            refine xr_iconst (v := (-1)) C dX12_card_119 rfl ?_
            obtain ⟨a60, rfl, hm⟩ := hm
            obtain ⟨N59, f59, e59, b59, h61, v59, hm⟩ := hm
            refine xr_iast C 0 rfl e59 b59 v59 dX12_card_120 ?_
            refine xr_aload_n (r := (some a0)) C dX12_card_121 0 rfl ?_
            refine xr_dup C dX12_card_122 rfl ?_
            obtain ⟨fs62, x63, e62, f62, hm⟩ := hm
            refine xr_get (ci := 13) C 21 e62 f62 rfl inX12 (by decide) wd_779 dX12_card_123 ?_
            refine xr_iconst (v := 1) C dX12_card_126 rfl ?_
            refine xr_iadd C dX12_card_127 ?_
            obtain ⟨fs64, e64, f64, h65, eh64, hm⟩ := hm
            refine xr_put (ci := 13) (v := .int (x63 + 1)) C 21 .int tyX12 tyX12_ok nmX12 e64 f64 rfl inX12 (by decide) wd_779 rfl (by decide) rfl rfl eh64 dX12_card_128 ?_
            refine xr_aload_n (r := (some a0)) C dX12_card_131 0 rfl ?_
            obtain ⟨fs66, x67, e66, f66, hm⟩ := hm
            refine xr_get (ci := 13) C 21 e66 f66 rfl inX12 (by decide) wd_779 dX12_card_132 ?_
            refine xr_iconst (v := 1) C dX12_card_135 rfl ?_
            refine xr_isub C dX12_card_136 ?_
            exact xr_ireturn C hr hlk hm dX12_card_137
          · replace hm := hm.1 q19
            refine xr_iconst (v := (-1)) C dX12_card_57 rfl ?_
            exact xr_ireturn C hr hlk hm dX12_card_58
set_option maxRecDepth 100000 in
set_option maxHeartbeats 4000000 in
theorem c_X12_terminal {l : Launch} {D : va_G} {E : Ev} (a0 : Nat) (yp1 : Int64) (yp3 : Int64) (h : Hp) (kc ks : Nat) {Q : Int32 → Hp → Prop} (hm : m_X12_terminal E a0 yp1 yp3 h kc ks Q) : XMet l yX12_terminal cX12_terminal 5 (some .int) 1 25 kc ks D E h [.ref a0, .long yp1, .long yp3] (fun A => va_Qi Q (XPost D A) A) := by
  refine xm_of (lv0 := [(0, .ref a0), (1, .long yp1), (3, .long yp3)]) (by decide) (Nat.le_of_ble_eq_true rfl) rfl RX12 rfl (fun p e s m args below meth c A R hRm C hr hlk hnm => ?_)
  have hR : R.frames = 1 ∧ R.locals = 25 := by rw [hRm]; exact ⟨rfl, rfl⟩
  refine xr_aload_n (r := (some a0)) C dX12_terminal_0 0 rfl ?_
  obtain ⟨fs1, x2, e1, f1, hm⟩ := hm
  refine xr_get (ci := 13) C 36 e1 f1 rfl inX12 (by decide) wd_809 dX12_terminal_1 ?_
  refine xr_bipush (v := 8) C dX12_terminal_4 rfl ?_
  refine xr_icmp_eq (tgt := 31) C dX12_terminal_6 (by decide) (fun q3 => ?_) (fun q3 => ?_)
  · replace hm := hm.1 q3
    refine xr_iconst (v := (-1)) C dX12_terminal_31 rfl ?_
    exact xr_ireturn C hr hlk hm dX12_terminal_32
  · replace hm := hm.2 q3
    refine xr_lload_n C dX12_terminal_9 1 rfl ?_
    refine xr_lconst (v := 0) C dX12_terminal_10 rfl ?_
    refine xr_ldc2 (v := 1000000000) C dX12_terminal_11 wd_848 ?_
    refine xr_cSi (n := 3) (As := [.long yp1, .long 0, .long 1000000000]) (st := []) C (c_X12_isIn yp1 0 1000000000 h 0 0 hm) wd_851 wd_853 wd_712 wd_852 (by decide +kernel) rfl (by rw [hR.1, hR.2]; decide) (Nat.zero_add _).symm (Nat.zero_add _).symm rfl (Nat.le_of_ble_eq_true rfl) dX12_terminal_14 (fun x5 h6 hn => ?_)
    clear hm
    have hm := hn
    clear hn
    refine xr_if_eq (tgt := 31) C dX12_terminal_17 (by decide) (fun q7 => ?_) (fun q7 => ?_)
    · replace hm := hm.1 q7
      refine xr_iconst (v := (-1)) C dX12_terminal_31 rfl ?_
      exact xr_ireturn C hr hlk hm dX12_terminal_32
    · replace hm := hm.2 q7
      refine xr_lload_n C dX12_terminal_20 2 rfl ?_
      refine xr_lconst (v := 0) C dX12_terminal_21 rfl ?_
      refine xr_ldc2 (v := 1000000000) C dX12_terminal_22 wd_848 ?_
      refine xr_cSi (n := 3) (As := [.long yp3, .long 0, .long 1000000000]) (st := []) C (c_X12_isIn yp3 0 1000000000 h6 0 0 hm) wd_851 wd_853 wd_712 wd_852 (by decide +kernel) rfl (by rw [hR.1, hR.2]; decide) (Nat.zero_add _).symm (Nat.zero_add _).symm rfl (Nat.le_of_ble_eq_true rfl) dX12_terminal_25 (fun x9 h10 hn => ?_)
      clear hm
      have hm := hn
      clear hn
      refine xr_if_ne (tgt := 33) C dX12_terminal_28 (by decide) (fun q11 => ?_) (fun q11 => ?_)
      · replace hm := hm.2 q11
        refine xr_aload_n (r := (some a0)) C dX12_terminal_33 0 rfl ?_
        obtain ⟨fs12, r13, e12, f12, hm⟩ := hm
        refine xr_get (ci := 13) C 37 e12 f12 rfl inX12 (by decide) wd_684 dX12_terminal_34 ?_
        refine xr_aload_n (r := (some a0)) C dX12_terminal_37 0 rfl ?_
        obtain ⟨fs14, x15, e14, f14, hm⟩ := hm
        refine xr_get (ci := 13) C 36 e14 f14 rfl inX12 (by decide) wd_809 dX12_terminal_38 ?_
        refine xr_lload_n C dX12_terminal_41 1 rfl ?_
        obtain ⟨a17, rfl, hm⟩ := hm
        obtain ⟨N16, f16, e16, b16, h18, v16, hm⟩ := hm
        refine xr_last C 1 rfl e16 b16 v16 dX12_terminal_42 ?_
        refine xr_aload_n (r := (some a0)) C dX12_terminal_43 0 rfl ?_
        obtain ⟨fs19, r20, e19, f19, hm⟩ := hm
        refine xr_get (ci := 13) C 38 e19 f19 rfl inX12 (by decide) wd_685 dX12_terminal_44 ?_
        refine xr_aload_n (r := (some a0)) C dX12_terminal_47 0 rfl ?_
        obtain ⟨fs21, x22, e21, f21, hm⟩ := hm
        refine xr_get (ci := 13) C 36 e21 f21 rfl inX12 (by decide) wd_809 dX12_terminal_48 ?_
        refine xr_lload_n C dX12_terminal_51 2 rfl ?_
        obtain ⟨a24, rfl, hm⟩ := hm
        obtain ⟨N23, f23, e23, b23, h25, v23, hm⟩ := hm
        refine xr_last C 1 rfl e23 b23 v23 dX12_terminal_52 ?_
        refine xr_aload_n (r := (some a0)) C dX12_terminal_53 0 rfl ?_
        obtain ⟨fs26, r27, e26, f26, hm⟩ := hm
        refine xr_get (ci := 13) C 39 e26 f26 rfl inX12 (by decide) wd_686 dX12_terminal_54 ?_
        refine xr_aload_n (r := (some a0)) C dX12_terminal_57 0 rfl ?_
        obtain ⟨fs28, x29, e28, f28, hm⟩ := hm
        refine xr_get (ci := 13) C 36 e28 f28 rfl inX12 (by decide) wd_809 dX12_terminal_58 ?_
        refine xr_ldc2 (v := 12345) C dX12_terminal_61 wd_854 ?_
        refine xr_aload_n (r := (some a0)) C dX12_terminal_64 0 rfl ?_
        obtain ⟨fs30, x31, e30, f30, hm⟩ := hm
        refine xr_get (ci := 13) C 36 e30 f30 rfl inX12 (by decide) wd_809 dX12_terminal_65 ?_
        refine xr_i2l (v := x31.toInt64) C dX12_terminal_68 rfl ?_
        refine xr_ladd C dX12_terminal_69 ?_
        obtain ⟨a33, rfl, hm⟩ := hm
        obtain ⟨N32, f32, e32, b32, h34, v32, hm⟩ := hm
        refine xr_last C 1 rfl e32 b32 v32 dX12_terminal_70 ?_
        refine xr_aload_n (r := (some a0)) C dX12_terminal_71 0 rfl ?_
        refine xr_dup C dX12_terminal_72 rfl ?_
        obtain ⟨fs35, x36, e35, f35, hm⟩ := hm
        refine xr_get (ci := 13) C 36 e35 f35 rfl inX12 (by decide) wd_809 dX12_terminal_73 ?_
        refine xr_iconst (v := 1) C dX12_terminal_76 rfl ?_
        refine xr_iadd C dX12_terminal_77 ?_
        obtain ⟨fs37, e37, f37, h38, eh37, hm⟩ := hm
        refine xr_put (ci := 13) (v := .int (x36 + 1)) C 36 .int tyX12 tyX12_ok nmX12 e37 f37 rfl inX12 (by decide) wd_809 rfl (by decide) rfl rfl eh37 dX12_terminal_78 ?_
        refine xr_aload_n (r := (some a0)) C dX12_terminal_81 0 rfl ?_
        obtain ⟨fs39, x40, e39, f39, hm⟩ := hm
        refine xr_get (ci := 13) C 36 e39 f39 rfl inX12 (by decide) wd_809 dX12_terminal_82 ?_
        refine xr_iconst (v := 1) C dX12_terminal_85 rfl ?_
        refine xr_isub C dX12_terminal_86 ?_
        exact xr_ireturn C hr hlk hm dX12_terminal_87
      · replace hm := hm.1 q11
        refine xr_iconst (v := (-1)) C dX12_terminal_31 rfl ?_
        exact xr_ireturn C hr hlk hm dX12_terminal_32
set_option maxRecDepth 100000 in
set_option maxHeartbeats 4000000 in
theorem c_X12_purchase {l : Launch} {D : va_G} {E : Ev} (a0 : Nat) (xp1 : Int32) (xp2 : Int32) (yp3 : Int64) (xp5 : Int32) (h : Hp) (kc ks : Nat) {Q : Int32 → Hp → Prop} (hm : m_X12_purchase E a0 xp1 xp2 yp3 xp5 h kc ks Q) : XMet l yX12_purchase cX12_purchase 6 (some .int) 3 78 kc ks D E h [.ref a0, .int xp1, .int xp2, .long yp3, .int xp5] (fun A => va_Qi Q (XPost D A) A) := by
  refine xm_of (lv0 := [(0, .ref a0), (1, .int xp1), (2, .int xp2), (3, .long yp3), (5, .int xp5)]) (by decide) (Nat.le_of_ble_eq_true rfl) rfl RX12 rfl (fun p e s m args below meth c A R hRm C hr hlk hnm => ?_)
  have hR : R.frames = 3 ∧ R.locals = 78 := by rw [hRm]; exact ⟨rfl, rfl⟩
  refine xr_iload_n C dX12_purchase_0 1 rfl ?_
  refine xr_if_lt (tgt := 48) C dX12_purchase_1 (by decide) (fun q1 => ?_) (fun q1 => ?_)
  · replace hm := hm.1 q1
    refine xr_iconst (v := (-1)) C dX12_purchase_48 rfl ?_
    exact xr_ireturn C hr hlk hm dX12_purchase_49
  · replace hm := hm.2 q1
    refine xr_iload_n C dX12_purchase_4 1 rfl ?_
    refine xr_aload_n (r := (some a0)) C dX12_purchase_5 0 rfl ?_
    obtain ⟨fs2, x3, e2, f2, hm⟩ := hm
    refine xr_get (ci := 13) C 36 e2 f2 rfl inX12 (by decide) wd_809 dX12_purchase_6 ?_
    refine xr_icmp_ge (tgt := 48) C dX12_purchase_9 (by decide) (fun q4 => ?_) (fun q4 => ?_)
    · replace hm := hm.1 q4
      refine xr_iconst (v := (-1)) C dX12_purchase_48 rfl ?_
      exact xr_ireturn C hr hlk hm dX12_purchase_49
    · replace hm := hm.2 q4
      refine xr_iload_n C dX12_purchase_12 2 rfl ?_
      refine xr_if_lt (tgt := 48) C dX12_purchase_13 (by decide) (fun q5 => ?_) (fun q5 => ?_)
      · replace hm := hm.1 q5
        refine xr_iconst (v := (-1)) C dX12_purchase_48 rfl ?_
        exact xr_ireturn C hr hlk hm dX12_purchase_49
      · replace hm := hm.2 q5
        refine xr_iload_n C dX12_purchase_16 2 rfl ?_
        refine xr_aload_n (r := (some a0)) C dX12_purchase_17 0 rfl ?_
        obtain ⟨fs6, x7, e6, f6, hm⟩ := hm
        refine xr_get (ci := 13) C 21 e6 f6 rfl inX12 (by decide) wd_779 dX12_purchase_18 ?_
        refine xr_icmp_ge (tgt := 48) C dX12_purchase_21 (by decide) (fun q8 => ?_) (fun q8 => ?_)
        · replace hm := hm.1 q8
          refine xr_iconst (v := (-1)) C dX12_purchase_48 rfl ?_
          exact xr_ireturn C hr hlk hm dX12_purchase_49
        · replace hm := hm.2 q8
          refine xr_lload_n C dX12_purchase_24 3 rfl ?_
          refine xr_lconst (v := 1) C dX12_purchase_25 rfl ?_
          refine xr_ldc2 (v := 1000000000) C dX12_purchase_26 wd_848 ?_
          refine xr_cSi (n := 3) (As := [.long yp3, .long 1, .long 1000000000]) (st := []) C (c_X12_isIn yp3 1 1000000000 h 0 0 hm) wd_851 wd_853 wd_712 wd_852 (by decide +kernel) rfl (by rw [hR.1, hR.2]; decide) (Nat.zero_add _).symm (Nat.zero_add _).symm rfl (Nat.le_of_ble_eq_true rfl) dX12_purchase_29 (fun x10 h11 hn => ?_)
          clear hm
          have hm := hn
          clear hn
          refine xr_if_eq (tgt := 48) C dX12_purchase_32 (by decide) (fun q12 => ?_) (fun q12 => ?_)
          · replace hm := hm.1 q12
            refine xr_iconst (v := (-1)) C dX12_purchase_48 rfl ?_
            exact xr_ireturn C hr hlk hm dX12_purchase_49
          · replace hm := hm.2 q12
            refine xr_iload C dX12_purchase_35 4 rfl ?_
            refine xr_i2l (v := xp5.toInt64) C dX12_purchase_37 rfl ?_
            refine xr_lconst (v := 0) C dX12_purchase_38 rfl ?_
            refine xr_ldc2 (v := 9999) C dX12_purchase_39 wd_847 ?_
            refine xr_cSi (n := 3) (As := [.long xp5.toInt64, .long 0, .long 9999]) (st := []) C (c_X12_isIn xp5.toInt64 0 9999 h11 0 0 hm) wd_851 wd_853 wd_712 wd_852 (by decide +kernel) rfl (by rw [hR.1, hR.2]; decide) (Nat.zero_add _).symm (Nat.zero_add _).symm rfl (Nat.le_of_ble_eq_true rfl) dX12_purchase_42 (fun x14 h15 hn => ?_)
            clear hm
            have hm := hn
            clear hn
            refine xr_if_ne (tgt := 50) C dX12_purchase_45 (by decide) (fun q16 => ?_) (fun q16 => ?_)
            · replace hm := hm.2 q16
              refine xr_aload_n (r := (some a0)) C dX12_purchase_50 0 rfl ?_
              obtain ⟨fs17, r18, e17, f17, hm⟩ := hm
              refine xr_get (ci := 13) C 39 e17 f17 rfl inX12 (by decide) wd_686 dX12_purchase_51 ?_
              refine xr_iload_n C dX12_purchase_54 1 rfl ?_
              refine xr_aload_n (r := (some a0)) C dX12_purchase_55 0 rfl ?_
              obtain ⟨fs19, r20, e19, f19, hm⟩ := hm
              refine xr_get (ci := 13) C 39 e19 f19 rfl inX12 (by decide) wd_686 dX12_purchase_56 ?_
              refine xr_iload_n C dX12_purchase_59 1 rfl ?_
              obtain ⟨a22, rfl, hm⟩ := hm
              obtain ⟨N21, f21, y23, e21, b21, v21, hm⟩ := hm
              refine xr_lald C 1 rfl e21 b21 v21 dX12_purchase_60 ?_
              refine xr_ldc2 (v := 1103515245) C dX12_purchase_61 wd_855 ?_
              refine xr_lmul C dX12_purchase_64 ?_
              refine xr_ldc2 (v := 12345) C dX12_purchase_65 wd_854 ?_
              refine xr_ladd C dX12_purchase_68 ?_
              refine xr_ldc2 (v := 2147483648) C dX12_purchase_69 wd_856 ?_
              refine xr_lrem C dX12_purchase_72 (by decide) ?_
              refine xr_topl (fun y24 e25 => ?_)
              replace hm := hm y24 e25
              obtain ⟨a27, rfl, hm⟩ := hm
              obtain ⟨N26, f26, e26, b26, h28, v26, hm⟩ := hm
              refine xr_last C 1 rfl e26 b26 v26 dX12_purchase_73 ?_
              refine xr_aload_n (r := (some a0)) C dX12_purchase_74 0 rfl ?_
              obtain ⟨fs29, r30, e29, f29, hm⟩ := hm
              refine xr_get (ci := 13) C 40 e29 f29 rfl inX12 (by decide) wd_687 dX12_purchase_75 ?_
              refine xr_iload_n C dX12_purchase_78 1 rfl ?_
              refine xr_iconst (v := 0) C dX12_purchase_79 rfl ?_
              obtain ⟨a32, rfl, hm⟩ := hm
              obtain ⟨N31, f31, e31, b31, h33, v31, hm⟩ := hm
              refine xr_iast C 0 rfl e31 b31 v31 dX12_purchase_80 ?_
              refine xr_aload_n (r := (some a0)) C dX12_purchase_81 0 rfl ?_
              obtain ⟨fs34, r35, e34, f34, hm⟩ := hm
              refine xr_get (ci := 13) C 45 e34 f34 rfl inX12 (by decide) wd_692 dX12_purchase_82 ?_
              refine xr_iload_n C dX12_purchase_85 1 rfl ?_
              refine xr_aload_n (r := (some a0)) C dX12_purchase_86 0 rfl ?_
              obtain ⟨fs36, r37, e36, f36, hm⟩ := hm
              refine xr_get (ci := 13) C 39 e36 f36 rfl inX12 (by decide) wd_686 dX12_purchase_87 ?_
              refine xr_iload_n C dX12_purchase_90 1 rfl ?_
              obtain ⟨a39, rfl, hm⟩ := hm
              obtain ⟨N38, f38, y40, e38, b38, v38, hm⟩ := hm
              refine xr_lald C 1 rfl e38 b38 v38 dX12_purchase_91 ?_
              obtain ⟨a42, rfl, hm⟩ := hm
              obtain ⟨N41, f41, e41, b41, h43, v41, hm⟩ := hm
              refine xr_last C 1 rfl e41 b41 v41 dX12_purchase_92 ?_
              refine xr_aload_n (r := (some a0)) C dX12_purchase_93 0 rfl ?_
              obtain ⟨fs44, r45, e44, f44, hm⟩ := hm
              refine xr_get (ci := 13) C 44 e44 f44 rfl inX12 (by decide) wd_691 dX12_purchase_94 ?_
              refine xr_iload_n C dX12_purchase_97 1 rfl ?_
              refine xr_lload_n C dX12_purchase_98 3 rfl ?_
              obtain ⟨a47, rfl, hm⟩ := hm
              obtain ⟨N46, f46, e46, b46, h48, v46, hm⟩ := hm
              refine xr_last C 1 rfl e46 b46 v46 dX12_purchase_99 ?_
              refine xr_aload_n (r := (some a0)) C dX12_purchase_100 0 rfl ?_
              obtain ⟨fs49, r50, e49, f49, hm⟩ := hm
              refine xr_get (ci := 13) C 46 e49 f49 rfl inX12 (by decide) wd_693 dX12_purchase_101 ?_
              refine xr_iload_n C dX12_purchase_104 1 rfl ?_
              refine xr_iload C dX12_purchase_105 4 rfl ?_
              obtain ⟨a52, rfl, hm⟩ := hm
              obtain ⟨N51, f51, e51, b51, h53, v51, hm⟩ := hm
              refine xr_iast C 0 rfl e51 b51 v51 dX12_purchase_107 ?_
              refine xr_aload_n (r := (some a0)) C dX12_purchase_108 0 rfl ?_
              obtain ⟨fs54, r55, e54, f54, hm⟩ := hm
              refine xr_get (ci := 13) C 43 e54 f54 rfl inX12 (by decide) wd_690 dX12_purchase_109 ?_
              refine xr_iload_n C dX12_purchase_112 1 rfl ?_
              refine xr_iload_n C dX12_purchase_113 2 rfl ?_
              obtain ⟨a57, rfl, hm⟩ := hm
              obtain ⟨N56, f56, e56, b56, h58, v56, hm⟩ := hm
              refine xr_iast C 0 rfl e56 b56 v56 dX12_purchase_114 ?_
              refine xr_aload_n (r := (some a0)) C dX12_purchase_115 0 rfl ?_
              obtain ⟨fs59, r60, e59, f59, hm⟩ := hm
              refine xr_get (ci := 13) C 58 e59 f59 rfl inX12 (by decide) wd_702 dX12_purchase_116 ?_
              refine xr_iconst (v := 3) C dX12_purchase_119 rfl ?_
              refine xr_aload_n (r := (some a0)) C dX12_purchase_120 0 rfl ?_
              obtain ⟨fs61, x62, e61, f61, hm⟩ := hm
              refine xr_get (ci := 13) C 57 e61 f61 rfl inX12 (by decide) wd_857 dX12_purchase_121 ?_
              refine xr_imul C dX12_purchase_124 ?_
              refine xr_iload_n C dX12_purchase_125 1 rfl ?_
              refine xr_i2l (v := xp1.toInt64) C dX12_purchase_126 rfl ?_
              obtain ⟨a64, rfl, hm⟩ := hm
              obtain ⟨N63, f63, e63, b63, h65, v63, hm⟩ := hm
              refine xr_last C 1 rfl e63 b63 v63 dX12_purchase_127 ?_
              refine xr_aload_n (r := (some a0)) C dX12_purchase_128 0 rfl ?_
              obtain ⟨fs66, r67, e66, f66, hm⟩ := hm
              refine xr_get (ci := 13) C 58 e66 f66 rfl inX12 (by decide) wd_702 dX12_purchase_129 ?_
              refine xr_iconst (v := 3) C dX12_purchase_132 rfl ?_
              refine xr_aload_n (r := (some a0)) C dX12_purchase_133 0 rfl ?_
              obtain ⟨fs68, x69, e68, f68, hm⟩ := hm
              refine xr_get (ci := 13) C 57 e68 f68 rfl inX12 (by decide) wd_857 dX12_purchase_134 ?_
              refine xr_imul C dX12_purchase_137 ?_
              refine xr_iconst (v := 1) C dX12_purchase_138 rfl ?_
              refine xr_iadd C dX12_purchase_139 ?_
              refine xr_lload_n C dX12_purchase_140 3 rfl ?_
              obtain ⟨a71, rfl, hm⟩ := hm
              obtain ⟨N70, f70, e70, b70, h72, v70, hm⟩ := hm
              refine xr_last C 1 rfl e70 b70 v70 dX12_purchase_141 ?_
              refine xr_aload_n (r := (some a0)) C dX12_purchase_142 0 rfl ?_
              obtain ⟨fs73, r74, e73, f73, hm⟩ := hm
              refine xr_get (ci := 13) C 58 e73 f73 rfl inX12 (by decide) wd_702 dX12_purchase_143 ?_
              refine xr_iconst (v := 3) C dX12_purchase_146 rfl ?_
              refine xr_aload_n (r := (some a0)) C dX12_purchase_147 0 rfl ?_
              obtain ⟨fs75, x76, e75, f75, hm⟩ := hm
              refine xr_get (ci := 13) C 57 e75 f75 rfl inX12 (by decide) wd_857 dX12_purchase_148 ?_
              refine xr_imul C dX12_purchase_151 ?_
              refine xr_iconst (v := 2) C dX12_purchase_152 rfl ?_
              refine xr_iadd C dX12_purchase_153 ?_
              refine xr_aload_n (r := (some a0)) C dX12_purchase_154 0 rfl ?_
              obtain ⟨fs77, r78, e77, f77, hm⟩ := hm
              refine xr_get (ci := 13) C 45 e77 f77 rfl inX12 (by decide) wd_692 dX12_purchase_155 ?_
              refine xr_iload_n C dX12_purchase_158 1 rfl ?_
              obtain ⟨a80, rfl, hm⟩ := hm
              obtain ⟨N79, f79, y81, e79, b79, v79, hm⟩ := hm
              refine xr_lald C 1 rfl e79 b79 v79 dX12_purchase_159 ?_
              obtain ⟨a83, rfl, hm⟩ := hm
              obtain ⟨N82, f82, e82, b82, h84, v82, hm⟩ := hm
              refine xr_last C 1 rfl e82 b82 v82 dX12_purchase_160 ?_
              refine xr_aload_n (r := (some a0)) C dX12_purchase_161 0 rfl ?_
              refine xr_dup C dX12_purchase_162 rfl ?_
              obtain ⟨fs85, x86, e85, f85, hm⟩ := hm
              refine xr_get (ci := 13) C 57 e85 f85 rfl inX12 (by decide) wd_857 dX12_purchase_163 ?_
              refine xr_iconst (v := 1) C dX12_purchase_166 rfl ?_
              refine xr_iadd C dX12_purchase_167 ?_
              obtain ⟨fs87, e87, f87, h88, eh87, hm⟩ := hm
              refine xr_put (ci := 13) (v := .int (x86 + 1)) C 57 .int tyX12 tyX12_ok nmX12 e87 f87 rfl inX12 (by decide) wd_857 rfl (by decide) rfl rfl eh87 dX12_purchase_168 ?_
              refine xr_aload_n (r := (some a0)) C dX12_purchase_171 0 rfl ?_
              obtain ⟨fs89, r90, e89, f89, hm⟩ := hm
              refine xr_get (ci := 13) C 18 e89 f89 rfl inX12 (by decide) wd_668 dX12_purchase_172 ?_
              refine xr_iconst (v := 4) C dX12_purchase_175 rfl ?_
              refine xr_aload_n (r := (some a0)) C dX12_purchase_176 0 rfl ?_
              obtain ⟨fs91, r92, e91, f91, hm⟩ := hm
              refine xr_get (ci := 13) C 45 e91 f91 rfl inX12 (by decide) wd_692 dX12_purchase_177 ?_
              refine xr_iload_n C dX12_purchase_180 1 rfl ?_
              obtain ⟨a94, rfl, hm⟩ := hm
              obtain ⟨N93, f93, y95, e93, b93, v93, hm⟩ := hm
              refine xr_lald C 1 rfl e93 b93 v93 dX12_purchase_181 ?_
              obtain ⟨a97, rfl, hm⟩ := hm
              obtain ⟨N96, f96, e96, b96, h98, v96, hm⟩ := hm
              refine xr_last C 1 rfl e96 b96 v96 dX12_purchase_182 ?_
              refine xr_aload_n (r := (some a0)) C dX12_purchase_183 0 rfl ?_
              refine xr_iload_n C dX12_purchase_184 1 rfl ?_
              refine xr_iconst (v := 1) C dX12_purchase_185 rfl ?_
              refine xr_iconst (v := 2) C dX12_purchase_186 rfl ?_
              obtain ⟨⟨fs99, e99⟩, hm⟩ := hm
              refine xr_cVv (n := 3) (As := [.int xp1, .int 1, .int 2]) (st := []) C (c_X12_toItsCard a0 xp1 1 2 h98 0 0 hm) e99 rfl wd_775 wd_777 wd_778 wd_712 wd_776 (by decide +kernel) rfl (by rw [hR.1, hR.2]; decide) (Nat.zero_add _).symm (Nat.zero_add _).symm rfl (Nat.le_of_ble_eq_true rfl) dX12_purchase_187 (fun h101 hn => ?_)
              clear hm
              have hm := hn
              clear hn
              refine xr_aload_n (r := (some a0)) C dX12_purchase_190 0 rfl ?_
              obtain ⟨fs102, r103, e102, f102, hm⟩ := hm
              refine xr_get (ci := 13) C 45 e102 f102 rfl inX12 (by decide) wd_692 dX12_purchase_191 ?_
              refine xr_iload_n C dX12_purchase_194 1 rfl ?_
              obtain ⟨a105, rfl, hm⟩ := hm
              obtain ⟨N104, f104, y106, e104, b104, v104, hm⟩ := hm
              refine xr_lald C 1 rfl e104 b104 v104 dX12_purchase_195 ?_
              refine xr_l2i (v := y106.toInt32) C dX12_purchase_196 rfl ?_
              exact xr_ireturn C hr hlk hm dX12_purchase_197
            · replace hm := hm.1 q16
              refine xr_iconst (v := (-1)) C dX12_purchase_48 rfl ?_
              exact xr_ireturn C hr hlk hm dX12_purchase_49
set_option maxRecDepth 100000 in
set_option maxHeartbeats 4000000 in
theorem c_X12_alter {l : Launch} {D : va_G} {E : Ev} (a0 : Nat) (xp1 : Int32) (xp2 : Int32) (xp3 : Int32) (h : Hp) (kc ks : Nat) {Q : Int32 → Hp → Prop} (hm : m_X12_alter E a0 xp1 xp2 xp3 h kc ks Q) : XMet l yX12_alter cX12_alter 4 (some .boolean) 1 25 kc ks D E h [.ref a0, .int xp1, .int xp2, .int xp3] (fun A => va_Qi Q (XPost D A) A) := by
  refine xm_of (lv0 := [(0, .ref a0), (1, .int xp1), (2, .int xp2), (3, .int xp3)]) (by decide) (Nat.le_of_ble_eq_true rfl) rfl RX12 rfl (fun p e s m args below meth c A R hRm C hr hlk hnm => ?_)
  have hR : R.frames = 1 ∧ R.locals = 25 := by rw [hRm]; exact ⟨rfl, rfl⟩
  refine xr_aload_n (r := (some a0)) C dX12_alter_0 0 rfl ?_
  refine xr_iload_n C dX12_alter_1 1 rfl ?_
  obtain ⟨⟨fs1, e1⟩, hm⟩ := hm
  refine xr_cVi (n := 1) (As := [.int xp1]) (st := []) C (c_X12_isMessage a0 xp1 h 0 0 hm) e1 rfl wd_823 wd_825 wd_826 wd_712 wd_824 (by decide +kernel) rfl (by rw [hR.1, hR.2]; decide) (Nat.zero_add _).symm (Nat.zero_add _).symm rfl (Nat.le_of_ble_eq_true rfl) dX12_alter_2 (fun x2 h3 hn => ?_)
  clear hm
  have hm := hn
  clear hn
  refine xr_if_eq (tgt := 34) C dX12_alter_5 (by decide) (fun q4 => ?_) (fun q4 => ?_)
  · replace hm := hm.1 q4
    refine xr_iconst (v := 0) C dX12_alter_34 rfl ?_
    exact xr_zreturn C hr hlk (Or.inl rfl) hm dX12_alter_35
  · replace hm := hm.2 q4
    refine xr_iload_n C dX12_alter_8 2 rfl ?_
    refine xr_if_lt (tgt := 34) C dX12_alter_9 (by decide) (fun q5 => ?_) (fun q5 => ?_)
    · replace hm := hm.1 q5
      refine xr_iconst (v := 0) C dX12_alter_34 rfl ?_
      exact xr_zreturn C hr hlk (Or.inl rfl) hm dX12_alter_35
    · replace hm := hm.2 q5
      refine xr_iload_n C dX12_alter_12 2 rfl ?_
      refine xr_aload_n (r := (some a0)) C dX12_alter_13 0 rfl ?_
      obtain ⟨fs6, r7, e6, f6, hm⟩ := hm
      refine xr_get (ci := 13) C 11 e6 f6 rfl inX12 (by decide) wd_664 dX12_alter_14 ?_
      refine xr_iload_n C dX12_alter_17 1 rfl ?_
      obtain ⟨a9, rfl, hm⟩ := hm
      obtain ⟨N8, f8, x10, e8, b8, v8, hm⟩ := hm
      refine xr_iald C 0 rfl e8 b8 v8 dX12_alter_18 ?_
      refine xr_icmp_ge (tgt := 34) C dX12_alter_19 (by decide) (fun q11 => ?_) (fun q11 => ?_)
      · replace hm := hm.1 q11
        refine xr_iconst (v := 0) C dX12_alter_34 rfl ?_
        exact xr_zreturn C hr hlk (Or.inl rfl) hm dX12_alter_35
      · replace hm := hm.2 q11
        refine xr_iload_n C dX12_alter_22 3 rfl ?_
        refine xr_i2l (v := xp3.toInt64) C dX12_alter_23 rfl ?_
        refine xr_lconst (v := 0) C dX12_alter_24 rfl ?_
        refine xr_ldc2 (v := 255) C dX12_alter_25 wd_858 ?_
        refine xr_cSi (n := 3) (As := [.long xp3.toInt64, .long 0, .long 255]) (st := []) C (c_X12_isIn xp3.toInt64 0 255 h3 0 0 hm) wd_851 wd_853 wd_712 wd_852 (by decide +kernel) rfl (by rw [hR.1, hR.2]; decide) (Nat.zero_add _).symm (Nat.zero_add _).symm rfl (Nat.le_of_ble_eq_true rfl) dX12_alter_28 (fun x13 h14 hn => ?_)
        clear hm
        have hm := hn
        clear hn
        refine xr_if_ne (tgt := 36) C dX12_alter_31 (by decide) (fun q15 => ?_) (fun q15 => ?_)
        · replace hm := hm.2 q15
          refine xr_aload_n (r := (some a0)) C dX12_alter_36 0 rfl ?_
          obtain ⟨fs16, r17, e16, f16, hm⟩ := hm
          refine xr_get (ci := 13) C 12 e16 f16 rfl inX12 (by decide) wd_665 dX12_alter_37 ?_
          refine xr_bipush (v := 64) C dX12_alter_40 rfl ?_
          refine xr_iload_n C dX12_alter_42 1 rfl ?_
          refine xr_imul C dX12_alter_43 ?_
          refine xr_iload_n C dX12_alter_44 2 rfl ?_
          refine xr_iadd C dX12_alter_45 ?_
          refine xr_iload_n C dX12_alter_46 3 rfl ?_
          obtain ⟨a19, rfl, hm⟩ := hm
          obtain ⟨N18, f18, e18, b18, h20, v18, hm⟩ := hm
          refine xr_iast C 0 rfl e18 b18 v18 dX12_alter_47 ?_
          refine xr_iconst (v := 1) C dX12_alter_48 rfl ?_
          exact xr_zreturn C hr hlk (Or.inr rfl) hm dX12_alter_49
        · replace hm := hm.1 q15
          refine xr_iconst (v := 0) C dX12_alter_34 rfl ?_
          exact xr_zreturn C hr hlk (Or.inl rfl) hm dX12_alter_35
set_option maxRecDepth 100000 in
set_option maxHeartbeats 4000000 in
theorem c_X12_drop {l : Launch} {D : va_G} {E : Ev} (a0 : Nat) (xp1 : Int32) (h : Hp) (kc ks : Nat) {Q : Int32 → Hp → Prop} (hm : m_X12_drop E a0 xp1 h kc ks Q) : XMet l yX12_drop cX12_drop 2 (some .boolean) 1 23 kc ks D E h [.ref a0, .int xp1] (fun A => va_Qi Q (XPost D A) A) := by
  refine xm_of (lv0 := [(0, .ref a0), (1, .int xp1)]) (by decide) (Nat.le_of_ble_eq_true rfl) rfl RX12 rfl (fun p e s m args below meth c A R hRm C hr hlk hnm => ?_)
  have hR : R.frames = 1 ∧ R.locals = 23 := by rw [hRm]; exact ⟨rfl, rfl⟩
  refine xr_aload_n (r := (some a0)) C dX12_drop_0 0 rfl ?_
  refine xr_iload_n C dX12_drop_1 1 rfl ?_
  obtain ⟨⟨fs1, e1⟩, hm⟩ := hm
  refine xr_cVi (n := 1) (As := [.int xp1]) (st := []) C (c_X12_isMessage a0 xp1 h 0 0 hm) e1 rfl wd_823 wd_825 wd_826 wd_712 wd_824 (by decide +kernel) rfl (by rw [hR.1, hR.2]; decide) (Nat.zero_add _).symm (Nat.zero_add _).symm rfl (Nat.le_of_ble_eq_true rfl) dX12_drop_2 (fun x2 h3 hn => ?_)
  clear hm
  have hm := hn
  clear hn
  refine xr_if_ne (tgt := 10) C dX12_drop_5 (by decide) (fun q4 => ?_) (fun q4 => ?_)
  · replace hm := hm.2 q4
    refine xr_aload_n (r := (some a0)) C dX12_drop_10 0 rfl ?_
    refine xr_iload_n C dX12_drop_11 1 rfl ?_
    obtain ⟨⟨fs5, e5⟩, hm⟩ := hm
    refine xr_cVv (n := 1) (As := [.int xp1]) (st := []) C (c_X12_remove a0 xp1 h3 0 0 hm) e5 rfl wd_843 wd_845 wd_846 wd_712 wd_844 (by decide +kernel) rfl (by rw [hR.1, hR.2]; decide) (Nat.zero_add _).symm (Nat.zero_add _).symm rfl (Nat.le_of_ble_eq_true rfl) dX12_drop_12 (fun h7 hn => ?_)
    clear hm
    have hm := hn
    clear hn
    refine xr_iconst (v := 1) C dX12_drop_15 rfl ?_
    exact xr_zreturn C hr hlk (Or.inr rfl) hm dX12_drop_16
  · replace hm := hm.1 q4
    refine xr_iconst (v := 0) C dX12_drop_8 rfl ?_
    exact xr_zreturn C hr hlk (Or.inl rfl) hm dX12_drop_9
set_option maxRecDepth 100000 in
set_option maxHeartbeats 4000000 in
theorem k_X12_again_L21 {p : Program} {l : Launch} {e : Env} {R : Room} {s : State} {m : MethodId} {args : Array Value} {below : List Frame} {meth : Method} {c : Code} {D : va_G} {E : Ev} {A : Nat → Prop} {KC KS : Nat} (C : XC p R s m args c D E A 3 RX12 cX12_again KC KS) (hr : meth.sig.returnType = (some .boolean)) (hlk : meth.locks = false) (hnm : meth.name = "again") (hR : R.frames = 1 ∧ R.locals = 25) {Q : Int32 → Hp → Prop} : ∀ (n : Nat) (a0 : Nat) (xv1 : Int32) (xv2 : Int32) (h : Hp) (kc ks : Nat), m_X12_again_L21 n E a0 xv1 xv2 h kc ks Q → XW p l e R s m args below meth c (MQ below (va_Qi Q (XPost D A) A) args s KC KS A) D A KC KS 3 h kc ks [(0, .ref a0), (1, .int xv1), (2, .int xv2)] 21 [] := by
  intro n
  induction n with
  | zero => intro a0 xv1 xv2 h kc ks hm; exact False.elim hm
  | succ n ih =>
    intro a0 xv1 xv2 h kc ks hm
    refine xr_iload_n C dX12_again_21 2 rfl ?_
    refine xr_bipush (v := 64) C dX12_again_22 rfl ?_
    refine xr_icmp_ge (tgt := 58) C dX12_again_24 (by decide) (fun q9 => ?_) (fun q9 => ?_)
    · replace hm := hm.1 q9
      refine xr_aload_n (r := (some a0)) C dX12_again_58 0 rfl ?_
      refine xr_aload_n (r := (some a0)) C dX12_again_59 0 rfl ?_
      obtain ⟨fs10, r11, e10, f10, hm⟩ := hm
      refine xr_get (ci := 13) C 7 e10 f10 rfl inX12 (by decide) wd_660 dX12_again_60 ?_
      refine xr_iload_n C dX12_again_63 1 rfl ?_
      obtain ⟨a13, rfl, hm⟩ := hm
      obtain ⟨N12, f12, x14, e12, b12, v12, hm⟩ := hm
      refine xr_iald C 0 rfl e12 b12 v12 dX12_again_64 ?_
      refine xr_aload_n (r := (some a0)) C dX12_again_65 0 rfl ?_
      obtain ⟨fs15, r16, e15, f15, hm⟩ := hm
      refine xr_get (ci := 13) C 8 e15 f15 rfl inX12 (by decide) wd_661 dX12_again_66 ?_
      refine xr_iload_n C dX12_again_69 1 rfl ?_
      obtain ⟨a18, rfl, hm⟩ := hm
      obtain ⟨N17, f17, x19, e17, b17, v17, hm⟩ := hm
      refine xr_iald C 0 rfl e17 b17 v17 dX12_again_70 ?_
      refine xr_aload_n (r := (some a0)) C dX12_again_71 0 rfl ?_
      obtain ⟨fs20, r21, e20, f20, hm⟩ := hm
      refine xr_get (ci := 13) C 9 e20 f20 rfl inX12 (by decide) wd_662 dX12_again_72 ?_
      refine xr_iload_n C dX12_again_75 1 rfl ?_
      obtain ⟨a23, rfl, hm⟩ := hm
      obtain ⟨N22, f22, x24, e22, b22, v22, hm⟩ := hm
      refine xr_iald C 0 rfl e22 b22 v22 dX12_again_76 ?_
      refine xr_aload_n (r := (some a0)) C dX12_again_77 0 rfl ?_
      obtain ⟨fs25, r26, e25, f25, hm⟩ := hm
      refine xr_get (ci := 13) C 10 e25 f25 rfl inX12 (by decide) wd_663 dX12_again_78 ?_
      refine xr_iload_n C dX12_again_81 1 rfl ?_
      obtain ⟨a28, rfl, hm⟩ := hm
      obtain ⟨N27, f27, x29, e27, b27, v27, hm⟩ := hm
      refine xr_iald C 0 rfl e27 b27 v27 dX12_again_82 ?_
      refine xr_aload_n (r := (some a0)) C dX12_again_83 0 rfl ?_
      obtain ⟨fs30, r31, e30, f30, hm⟩ := hm
      refine xr_get (ci := 13) C 11 e30 f30 rfl inX12 (by decide) wd_664 dX12_again_84 ?_
      refine xr_iload_n C dX12_again_87 1 rfl ?_
      obtain ⟨a33, rfl, hm⟩ := hm
      obtain ⟨N32, f32, x34, e32, b32, v32, hm⟩ := hm
      refine xr_iald C 0 rfl e32 b32 v32 dX12_again_88 ?_
      obtain ⟨⟨fs35, e35⟩, hm⟩ := hm
      refine xr_cVv (n := 5) (As := [.int x14, .int x19, .int x24, .int x29, .int x34]) (st := []) C (c_X12_lie a0 x14 x19 x24 x29 x34 h 0 0 hm) e35 rfl wd_714 wd_716 wd_717 wd_712 wd_715 (by decide +kernel) rfl (by rw [hR.1, hR.2]; decide) (Nat.zero_add _).symm (Nat.zero_add _).symm rfl (Nat.le_of_ble_eq_true rfl) dX12_again_89 (fun h37 hn => ?_)
      clear hm
      have hm := hn
      clear hn
      refine xr_iconst (v := 1) C dX12_again_92 rfl ?_
      exact xr_zreturn C hr hlk (Or.inr rfl) hm dX12_again_93
    · replace hm := hm.2 q9
      refine xr_aload_n (r := (some a0)) C dX12_again_27 0 rfl ?_
      obtain ⟨fs38, r39, e38, f38, hm⟩ := hm
      refine xr_get (ci := 13) C 12 e38 f38 rfl inX12 (by decide) wd_665 dX12_again_28 ?_
      refine xr_bipush (v := 64) C dX12_again_31 rfl ?_
      refine xr_aload_n (r := (some a0)) C dX12_again_33 0 rfl ?_
      obtain ⟨fs40, x41, e40, f40, hm⟩ := hm
      refine xr_get (ci := 13) C 6 e40 f40 rfl inX12 (by decide) wd_713 dX12_again_34 ?_
      refine xr_imul C dX12_again_37 ?_
      refine xr_iload_n C dX12_again_38 2 rfl ?_
      refine xr_iadd C dX12_again_39 ?_
      refine xr_aload_n (r := (some a0)) C dX12_again_40 0 rfl ?_
      obtain ⟨fs42, r43, e42, f42, hm⟩ := hm
      refine xr_get (ci := 13) C 12 e42 f42 rfl inX12 (by decide) wd_665 dX12_again_41 ?_
      refine xr_bipush (v := 64) C dX12_again_44 rfl ?_
      refine xr_iload_n C dX12_again_46 1 rfl ?_
      refine xr_imul C dX12_again_47 ?_
      refine xr_iload_n C dX12_again_48 2 rfl ?_
      refine xr_iadd C dX12_again_49 ?_
      obtain ⟨a45, rfl, hm⟩ := hm
      obtain ⟨N44, f44, x46, e44, b44, v44, hm⟩ := hm
      refine xr_iald C 0 rfl e44 b44 v44 dX12_again_50 ?_
      obtain ⟨a48, rfl, hm⟩ := hm
      obtain ⟨N47, f47, e47, b47, h49, v47, hm⟩ := hm
      refine xr_iast C 0 rfl e47 b47 v47 dX12_again_51 ?_
      refine xr_iinc (j := 2) (v := xv2 + 1) (lv' := [(2, .int (xv2 + 1)), (0, .ref a0), (1, .int xv1)]) C dX12_again_52 rfl rfl (by decide) rfl ?_
      refine xr_goto (tgt := 21) C dX12_again_55 (by decide) ?_
      refine xr_sub [1, 2, 0] rfl ?_
      exact ih a0 xv1 (xv2 + 1) _ _ _ hm
set_option maxRecDepth 100000 in
set_option maxHeartbeats 4000000 in
theorem c_X12_again {l : Launch} {D : va_G} {E : Ev} (a0 : Nat) (xp1 : Int32) (h : Hp) (kc ks : Nat) {Q : Int32 → Hp → Prop} (hm : m_X12_again E a0 xp1 h kc ks Q) : XMet l yX12_again cX12_again 3 (some .boolean) 1 25 kc ks D E h [.ref a0, .int xp1] (fun A => va_Qi Q (XPost D A) A) := by
  refine xm_of (lv0 := [(0, .ref a0), (1, .int xp1)]) (by decide) (Nat.le_of_ble_eq_true rfl) rfl RX12 rfl (fun p e s m args below meth c A R hRm C hr hlk hnm => ?_)
  have hR : R.frames = 1 ∧ R.locals = 25 := by rw [hRm]; exact ⟨rfl, rfl⟩
  refine xr_aload_n (r := (some a0)) C dX12_again_0 0 rfl ?_
  refine xr_iload_n C dX12_again_1 1 rfl ?_
  obtain ⟨⟨fs1, e1⟩, hm⟩ := hm
  refine xr_cVi (n := 1) (As := [.int xp1]) (st := []) C (c_X12_isMessage a0 xp1 h 0 0 hm) e1 rfl wd_823 wd_825 wd_826 wd_712 wd_824 (by decide +kernel) rfl (by rw [hR.1, hR.2]; decide) (Nat.zero_add _).symm (Nat.zero_add _).symm rfl (Nat.le_of_ble_eq_true rfl) dX12_again_2 (fun x2 h3 hn => ?_)
  clear hm
  have hm := hn
  clear hn
  refine xr_if_eq (tgt := 17) C dX12_again_5 (by decide) (fun q4 => ?_) (fun q4 => ?_)
  · replace hm := hm.1 q4
    refine xr_iconst (v := 0) C dX12_again_17 rfl ?_
    exact xr_zreturn C hr hlk (Or.inl rfl) hm dX12_again_18
  · replace hm := hm.2 q4
    refine xr_aload_n (r := (some a0)) C dX12_again_8 0 rfl ?_
    obtain ⟨fs5, x6, e5, f5, hm⟩ := hm
    refine xr_get (ci := 13) C 6 e5 f5 rfl inX12 (by decide) wd_713 dX12_again_9 ?_
    refine xr_bipush (v := 60) C dX12_again_12 rfl ?_
    refine xr_icmp_ne (tgt := 19) C dX12_again_14 (by decide) (fun q7 => ?_) (fun q7 => ?_)
    · replace hm := hm.2 q7
      refine xr_iconst (v := 0) C dX12_again_19 rfl ?_
      refine xr_istore_n (lv' := [(2, .int 0), (0, .ref a0), (1, .int xp1)]) C dX12_again_20 (by decide) rfl ?_
      obtain ⟨n8, hm⟩ := hm
      refine xr_sub [1, 2, 0] rfl ?_
      exact k_X12_again_L21 C hr hlk hnm hR n8 a0 xp1 0 _ _ _ hm
    · replace hm := hm.1 q7
      refine xr_iconst (v := 0) C dX12_again_17 rfl ?_
      exact xr_zreturn C hr hlk (Or.inl rfl) hm dX12_again_18
set_option maxRecDepth 100000 in
set_option maxHeartbeats 4000000 in
theorem c_X12_put {l : Launch} {D : va_G} {E : Ev} (a0 : Nat) (xp1 : Int32) (h : Hp) (kc ks : Nat) {Q : Int32 → Hp → Prop} (hm : m_X12_put E a0 xp1 h kc ks Q) : XMet l yX12_put cX12_put 2 (some .int) 1 25 kc ks D E h [.ref a0, .int xp1] (fun A => va_Qi Q (XPost D A) A) := by
  refine xm_of (lv0 := [(0, .ref a0), (1, .int xp1)]) (by decide) (Nat.le_of_ble_eq_true rfl) rfl RX12 rfl (fun p e s m args below meth c A R hRm C hr hlk hnm => ?_)
  have hR : R.frames = 1 ∧ R.locals = 25 := by rw [hRm]; exact ⟨rfl, rfl⟩
  refine xr_aload_n (r := (some a0)) C dX12_put_0 0 rfl ?_
  obtain ⟨fs1, x2, e1, f1, hm⟩ := hm
  refine xr_get (ci := 13) C 20 e1 f1 rfl inX12 (by decide) wd_859 dX12_put_1 ?_
  refine xr_bipush (v := 64) C dX12_put_4 rfl ?_
  refine xr_icmp_eq (tgt := 21) C dX12_put_6 (by decide) (fun q3 => ?_) (fun q3 => ?_)
  · replace hm := hm.1 q3
    refine xr_iconst (v := (-1)) C dX12_put_21 rfl ?_
    exact xr_ireturn C hr hlk hm dX12_put_22
  · replace hm := hm.2 q3
    refine xr_iload_n C dX12_put_9 1 rfl ?_
    refine xr_i2l (v := xp1.toInt64) C dX12_put_10 rfl ?_
    refine xr_lconst (v := 0) C dX12_put_11 rfl ?_
    refine xr_ldc2 (v := 255) C dX12_put_12 wd_858 ?_
    refine xr_cSi (n := 3) (As := [.long xp1.toInt64, .long 0, .long 255]) (st := []) C (c_X12_isIn xp1.toInt64 0 255 h 0 0 hm) wd_851 wd_853 wd_712 wd_852 (by decide +kernel) rfl (by rw [hR.1, hR.2]; decide) (Nat.zero_add _).symm (Nat.zero_add _).symm rfl (Nat.le_of_ble_eq_true rfl) dX12_put_15 (fun x5 h6 hn => ?_)
    clear hm
    have hm := hn
    clear hn
    refine xr_if_ne (tgt := 23) C dX12_put_18 (by decide) (fun q7 => ?_) (fun q7 => ?_)
    · replace hm := hm.2 q7
      refine xr_aload_n (r := (some a0)) C dX12_put_23 0 rfl ?_
      obtain ⟨fs8, r9, e8, f8, hm⟩ := hm
      refine xr_get (ci := 13) C 19 e8 f8 rfl inX12 (by decide) wd_669 dX12_put_24 ?_
      refine xr_aload_n (r := (some a0)) C dX12_put_27 0 rfl ?_
      obtain ⟨fs10, x11, e10, f10, hm⟩ := hm
      refine xr_get (ci := 13) C 20 e10 f10 rfl inX12 (by decide) wd_859 dX12_put_28 ?_
      refine xr_iload_n C dX12_put_31 1 rfl ?_
      obtain ⟨a13, rfl, hm⟩ := hm
      obtain ⟨N12, f12, e12, b12, h14, v12, hm⟩ := hm
      refine xr_iast C 0 rfl e12 b12 v12 dX12_put_32 ?_
      refine xr_aload_n (r := (some a0)) C dX12_put_33 0 rfl ?_
      refine xr_dup C dX12_put_34 rfl ?_
      obtain ⟨fs15, x16, e15, f15, hm⟩ := hm
      refine xr_get (ci := 13) C 20 e15 f15 rfl inX12 (by decide) wd_859 dX12_put_35 ?_
      refine xr_iconst (v := 1) C dX12_put_38 rfl ?_
      refine xr_iadd C dX12_put_39 ?_
      obtain ⟨fs17, e17, f17, h18, eh17, hm⟩ := hm
      refine xr_put (ci := 13) (v := .int (x16 + 1)) C 20 .int tyX12 tyX12_ok nmX12 e17 f17 rfl inX12 (by decide) wd_859 rfl (by decide) rfl rfl eh17 dX12_put_40 ?_
      refine xr_aload_n (r := (some a0)) C dX12_put_43 0 rfl ?_
      obtain ⟨fs19, x20, e19, f19, hm⟩ := hm
      refine xr_get (ci := 13) C 20 e19 f19 rfl inX12 (by decide) wd_859 dX12_put_44 ?_
      exact xr_ireturn C hr hlk hm dX12_put_47
    · replace hm := hm.1 q7
      refine xr_iconst (v := (-1)) C dX12_put_21 rfl ?_
      exact xr_ireturn C hr hlk hm dX12_put_22
set_option maxRecDepth 100000 in
set_option maxHeartbeats 4000000 in
theorem k_X12_isThere_L44 {p : Program} {l : Launch} {e : Env} {R : Room} {s : State} {m : MethodId} {args : Array Value} {below : List Frame} {meth : Method} {c : Code} {D : va_G} {E : Ev} {A : Nat → Prop} {KC KS : Nat} (C : XC p R s m args c D E A 3 RX12 cX12_isThere KC KS) (hr : meth.sig.returnType = (some .boolean)) (hlk : meth.locks = false) (hnm : meth.name = "isThere") (hR : R.frames = 0 ∧ R.locals = 0) {Q : Int32 → Hp → Prop} : ∀  (h : Hp) (kc ks : Nat), m_X12_isThere_L44 E  h kc ks Q → XW p l e R s m args below meth c (MQ below (va_Qi Q (XPost D A) A) args s KC KS A) D A KC KS 3 h kc ks [] 44 [] := by
  intro  h kc ks hm
  refine xr_iconst (v := 1) C dX12_isThere_44 rfl ?_
  refine xr_goto (tgt := 49) C dX12_isThere_45 (by decide) ?_
  exact xr_zreturn C hr hlk (Or.inr rfl) hm dX12_isThere_49
set_option maxRecDepth 100000 in
set_option maxHeartbeats 4000000 in
theorem c_X12_isThere {l : Launch} {D : va_G} {E : Ev} (a0 : Nat) (xp1 : Int32) (xp2 : Int32) (h : Hp) (kc ks : Nat) {Q : Int32 → Hp → Prop} (hm : m_X12_isThere E a0 xp1 xp2 h kc ks Q) : XMet l yX12_isThere cX12_isThere 3 (some .boolean) 0 0 kc ks D E h [.ref a0, .int xp1, .int xp2] (fun A => va_Qi Q (XPost D A) A) := by
  refine xm_of (lv0 := [(0, .ref a0), (1, .int xp1), (2, .int xp2)]) (by decide) (Nat.le_of_ble_eq_true rfl) rfl RX12 rfl (fun p e s m args below meth c A R hRm C hr hlk hnm => ?_)
  have hR : R.frames = 0 ∧ R.locals = 0 := by rw [hRm]; exact ⟨rfl, rfl⟩
  refine xr_iload_n C dX12_isThere_0 2 rfl ?_
  refine xr_if_lt (tgt := 48) C dX12_isThere_1 (by decide) (fun q1 => ?_) (fun q1 => ?_)
  · replace hm := hm.1 q1
    refine xr_iconst (v := 0) C dX12_isThere_48 rfl ?_
    exact xr_zreturn C hr hlk (Or.inl rfl) hm dX12_isThere_49
  · replace hm := hm.2 q1
    refine xr_iload_n C dX12_isThere_4 1 rfl ?_
    refine xr_if_ne (tgt := 19) C dX12_isThere_5 (by decide) (fun q2 => ?_) (fun q2 => ?_)
    · replace hm := hm.2 q2
      refine xr_iload_n C dX12_isThere_19 1 rfl ?_
      refine xr_iconst (v := 1) C dX12_isThere_20 rfl ?_
      refine xr_icmp_ne (tgt := 35) C dX12_isThere_21 (by decide) (fun q3 => ?_) (fun q3 => ?_)
      · replace hm := hm.2 q3
        refine xr_iload_n C dX12_isThere_35 1 rfl ?_
        refine xr_iconst (v := 2) C dX12_isThere_36 rfl ?_
        refine xr_icmp_ne (tgt := 48) C dX12_isThere_37 (by decide) (fun q4 => ?_) (fun q4 => ?_)
        · replace hm := hm.2 q4
          refine xr_iconst (v := 0) C dX12_isThere_48 rfl ?_
          exact xr_zreturn C hr hlk (Or.inl rfl) hm dX12_isThere_49
        · replace hm := hm.1 q4
          refine xr_iload_n C dX12_isThere_40 2 rfl ?_
          refine xr_if_ne (tgt := 48) C dX12_isThere_41 (by decide) (fun q5 => ?_) (fun q5 => ?_)
          · replace hm := hm.2 q5
            refine xr_iconst (v := 0) C dX12_isThere_48 rfl ?_
            exact xr_zreturn C hr hlk (Or.inl rfl) hm dX12_isThere_49
          · replace hm := hm.1 q5
            refine xr_sub [] rfl ?_
            exact k_X12_isThere_L44 C hr hlk hnm hR _ _ _ hm
      · replace hm := hm.1 q3
        refine xr_iload_n C dX12_isThere_24 2 rfl ?_
        refine xr_aload_n (r := (some a0)) C dX12_isThere_25 0 rfl ?_
        obtain ⟨fs6, x7, e6, f6, hm⟩ := hm
        refine xr_get (ci := 13) C 36 e6 f6 rfl inX12 (by decide) wd_809 dX12_isThere_26 ?_
        refine xr_icmp_ge (tgt := 48) C dX12_isThere_29 (by decide) (fun q8 => ?_) (fun q8 => ?_)
        · replace hm := hm.1 q8
          refine xr_iconst (v := 0) C dX12_isThere_48 rfl ?_
          exact xr_zreturn C hr hlk (Or.inl rfl) hm dX12_isThere_49
        · replace hm := hm.2 q8
          refine xr_goto (tgt := 44) C dX12_isThere_32 (by decide) ?_
          refine xr_sub [] rfl ?_
          exact k_X12_isThere_L44 C hr hlk hnm hR _ _ _ hm
    · replace hm := hm.1 q2
      refine xr_iload_n C dX12_isThere_8 2 rfl ?_
      refine xr_aload_n (r := (some a0)) C dX12_isThere_9 0 rfl ?_
      obtain ⟨fs9, x10, e9, f9, hm⟩ := hm
      refine xr_get (ci := 13) C 21 e9 f9 rfl inX12 (by decide) wd_779 dX12_isThere_10 ?_
      refine xr_icmp_ge (tgt := 48) C dX12_isThere_13 (by decide) (fun q11 => ?_) (fun q11 => ?_)
      · replace hm := hm.1 q11
        refine xr_iconst (v := 0) C dX12_isThere_48 rfl ?_
        exact xr_zreturn C hr hlk (Or.inl rfl) hm dX12_isThere_49
      · replace hm := hm.2 q11
        refine xr_goto (tgt := 44) C dX12_isThere_16 (by decide) ?_
        refine xr_sub [] rfl ?_
        exact k_X12_isThere_L44 C hr hlk hnm hR _ _ _ hm
set_option maxRecDepth 100000 in
set_option maxHeartbeats 4000000 in
theorem k_X12_inject_L40 {p : Program} {l : Launch} {e : Env} {R : Room} {s : State} {m : MethodId} {args : Array Value} {below : List Frame} {meth : Method} {c : Code} {D : va_G} {E : Ev} {A : Nat → Prop} {KC KS : Nat} (C : XC p R s m args c D E A 6 RX12 cX12_inject KC KS) (hr : meth.sig.returnType = (some .boolean)) (hlk : meth.locks = false) (hnm : meth.name = "inject") (hR : R.frames = 1 ∧ R.locals = 25) {Q : Int32 → Hp → Prop} : ∀ (n : Nat) (a0 : Nat) (xv1 : Int32) (xv2 : Int32) (xv3 : Int32) (xv4 : Int32) (xv5 : Int32) (h : Hp) (kc ks : Nat), m_X12_inject_L40 n E a0 xv1 xv2 xv3 xv4 xv5 h kc ks Q → XW p l e R s m args below meth c (MQ below (va_Qi Q (XPost D A) A) args s KC KS A) D A KC KS 6 h kc ks [(0, .ref a0), (1, .int xv1), (2, .int xv2), (3, .int xv3), (4, .int xv4), (5, .int xv5)] 40 [] := by
  intro n
  induction n with
  | zero => intro a0 xv1 xv2 xv3 xv4 xv5 h kc ks hm; exact False.elim hm
  | succ n ih =>
    intro a0 xv1 xv2 xv3 xv4 xv5 h kc ks hm
    refine xr_iload C dX12_inject_40 5 rfl ?_
    refine xr_aload_n (r := (some a0)) C dX12_inject_42 0 rfl ?_
    obtain ⟨fs16, x17, e16, f16, hm⟩ := hm
    refine xr_get (ci := 13) C 20 e16 f16 rfl inX12 (by decide) wd_859 dX12_inject_43 ?_
    refine xr_icmp_ge (tgt := 77) C dX12_inject_46 (by decide) (fun q18 => ?_) (fun q18 => ?_)
    · replace hm := hm.1 q18
      refine xr_aload_n (r := (some a0)) C dX12_inject_77 0 rfl ?_
      refine xr_iload_n C dX12_inject_78 1 rfl ?_
      refine xr_iload_n C dX12_inject_79 2 rfl ?_
      refine xr_iload_n C dX12_inject_80 3 rfl ?_
      refine xr_iload C dX12_inject_81 4 rfl ?_
      refine xr_aload_n (r := (some a0)) C dX12_inject_83 0 rfl ?_
      obtain ⟨fs19, x20, e19, f19, hm⟩ := hm
      refine xr_get (ci := 13) C 20 e19 f19 rfl inX12 (by decide) wd_859 dX12_inject_84 ?_
      obtain ⟨⟨fs21, e21⟩, hm⟩ := hm
      refine xr_cVv (n := 5) (As := [.int xv1, .int xv2, .int xv3, .int xv4, .int x20]) (st := []) C (c_X12_lie a0 xv1 xv2 xv3 xv4 x20 h 0 0 hm) e21 rfl wd_714 wd_716 wd_717 wd_712 wd_715 (by decide +kernel) rfl (by rw [hR.1, hR.2]; decide) (Nat.zero_add _).symm (Nat.zero_add _).symm rfl (Nat.le_of_ble_eq_true rfl) dX12_inject_87 (fun h23 hn => ?_)
      clear hm
      have hm := hn
      clear hn
      refine xr_aload_n (r := (some a0)) C dX12_inject_90 0 rfl ?_
      refine xr_iconst (v := 0) C dX12_inject_91 rfl ?_
      obtain ⟨fs24, e24, f24, h25, eh24, hm⟩ := hm
      refine xr_put (ci := 13) (v := .int 0) C 20 .int tyX12 tyX12_ok nmX12 e24 f24 rfl inX12 (by decide) wd_859 rfl (by decide) rfl rfl eh24 dX12_inject_92 ?_
      refine xr_iconst (v := 1) C dX12_inject_95 rfl ?_
      exact xr_zreturn C hr hlk (Or.inr rfl) hm dX12_inject_96
    · replace hm := hm.2 q18
      refine xr_aload_n (r := (some a0)) C dX12_inject_49 0 rfl ?_
      obtain ⟨fs26, r27, e26, f26, hm⟩ := hm
      refine xr_get (ci := 13) C 12 e26 f26 rfl inX12 (by decide) wd_665 dX12_inject_50 ?_
      refine xr_bipush (v := 64) C dX12_inject_53 rfl ?_
      refine xr_aload_n (r := (some a0)) C dX12_inject_55 0 rfl ?_
      obtain ⟨fs28, x29, e28, f28, hm⟩ := hm
      refine xr_get (ci := 13) C 6 e28 f28 rfl inX12 (by decide) wd_713 dX12_inject_56 ?_
      refine xr_imul C dX12_inject_59 ?_
      refine xr_iload C dX12_inject_60 5 rfl ?_
      refine xr_iadd C dX12_inject_62 ?_
      refine xr_aload_n (r := (some a0)) C dX12_inject_63 0 rfl ?_
      obtain ⟨fs30, r31, e30, f30, hm⟩ := hm
      refine xr_get (ci := 13) C 19 e30 f30 rfl inX12 (by decide) wd_669 dX12_inject_64 ?_
      refine xr_iload C dX12_inject_67 5 rfl ?_
      obtain ⟨a33, rfl, hm⟩ := hm
      obtain ⟨N32, f32, x34, e32, b32, v32, hm⟩ := hm
      refine xr_iald C 0 rfl e32 b32 v32 dX12_inject_69 ?_
      obtain ⟨a36, rfl, hm⟩ := hm
      obtain ⟨N35, f35, e35, b35, h37, v35, hm⟩ := hm
      refine xr_iast C 0 rfl e35 b35 v35 dX12_inject_70 ?_
      refine xr_iinc (j := 5) (v := xv5 + 1) (lv' := [(5, .int (xv5 + 1)), (0, .ref a0), (1, .int xv1), (2, .int xv2), (3, .int xv3), (4, .int xv4)]) C dX12_inject_71 rfl rfl (by decide) rfl ?_
      refine xr_goto (tgt := 40) C dX12_inject_74 (by decide) ?_
      refine xr_sub [1, 2, 3, 4, 5, 0] rfl ?_
      exact ih a0 xv1 xv2 xv3 xv4 (xv5 + 1) _ _ _ hm
set_option maxRecDepth 100000 in
set_option maxHeartbeats 4000000 in
theorem c_X12_inject {l : Launch} {D : va_G} {E : Ev} (a0 : Nat) (xp1 : Int32) (xp2 : Int32) (xp3 : Int32) (xp4 : Int32) (h : Hp) (kc ks : Nat) {Q : Int32 → Hp → Prop} (hm : m_X12_inject E a0 xp1 xp2 xp3 xp4 h kc ks Q) : XMet l yX12_inject cX12_inject 6 (some .boolean) 1 25 kc ks D E h [.ref a0, .int xp1, .int xp2, .int xp3, .int xp4] (fun A => va_Qi Q (XPost D A) A) := by
  refine xm_of (lv0 := [(0, .ref a0), (1, .int xp1), (2, .int xp2), (3, .int xp3), (4, .int xp4)]) (by decide) (Nat.le_of_ble_eq_true rfl) rfl RX12 rfl (fun p e s m args below meth c A R hRm C hr hlk hnm => ?_)
  have hR : R.frames = 1 ∧ R.locals = 25 := by rw [hRm]; exact ⟨rfl, rfl⟩
  refine xr_aload_n (r := (some a0)) C dX12_inject_0 0 rfl ?_
  refine xr_iload_n C dX12_inject_1 1 rfl ?_
  refine xr_iload_n C dX12_inject_2 2 rfl ?_
  obtain ⟨⟨fs1, e1⟩, hm⟩ := hm
  refine xr_cVi (n := 2) (As := [.int xp1, .int xp2]) (st := []) C (c_X12_isThere a0 xp1 xp2 h 0 0 hm) e1 rfl wd_860 wd_862 wd_863 wd_712 wd_861 (by decide +kernel) rfl (by rw [hR.1, hR.2]; decide) (Nat.zero_add _).symm (Nat.zero_add _).symm rfl (Nat.le_of_ble_eq_true rfl) dX12_inject_3 (fun x2 h3 hn => ?_)
  clear hm
  have hm := hn
  clear hn
  refine xr_if_eq (tgt := 35) C dX12_inject_6 (by decide) (fun q4 => ?_) (fun q4 => ?_)
  · replace hm := hm.1 q4
    refine xr_iconst (v := 0) C dX12_inject_35 rfl ?_
    exact xr_zreturn C hr hlk (Or.inl rfl) hm dX12_inject_36
  · replace hm := hm.2 q4
    refine xr_aload_n (r := (some a0)) C dX12_inject_9 0 rfl ?_
    refine xr_iload_n C dX12_inject_10 3 rfl ?_
    refine xr_iload C dX12_inject_11 4 rfl ?_
    obtain ⟨⟨fs5, e5⟩, hm⟩ := hm
    refine xr_cVi (n := 2) (As := [.int xp3, .int xp4]) (st := []) C (c_X12_isThere a0 xp3 xp4 h3 0 0 hm) e5 rfl wd_860 wd_862 wd_863 wd_712 wd_861 (by decide +kernel) rfl (by rw [hR.1, hR.2]; decide) (Nat.zero_add _).symm (Nat.zero_add _).symm rfl (Nat.le_of_ble_eq_true rfl) dX12_inject_13 (fun x6 h7 hn => ?_)
    clear hm
    have hm := hn
    clear hn
    refine xr_if_eq (tgt := 35) C dX12_inject_16 (by decide) (fun q8 => ?_) (fun q8 => ?_)
    · replace hm := hm.1 q8
      refine xr_iconst (v := 0) C dX12_inject_35 rfl ?_
      exact xr_zreturn C hr hlk (Or.inl rfl) hm dX12_inject_36
    · replace hm := hm.2 q8
      refine xr_aload_n (r := (some a0)) C dX12_inject_19 0 rfl ?_
      obtain ⟨fs9, x10, e9, f9, hm⟩ := hm
      refine xr_get (ci := 13) C 20 e9 f9 rfl inX12 (by decide) wd_859 dX12_inject_20 ?_
      refine xr_if_eq (tgt := 35) C dX12_inject_23 (by decide) (fun q11 => ?_) (fun q11 => ?_)
      · replace hm := hm.1 q11
        refine xr_iconst (v := 0) C dX12_inject_35 rfl ?_
        exact xr_zreturn C hr hlk (Or.inl rfl) hm dX12_inject_36
      · replace hm := hm.2 q11
        refine xr_aload_n (r := (some a0)) C dX12_inject_26 0 rfl ?_
        obtain ⟨fs12, x13, e12, f12, hm⟩ := hm
        refine xr_get (ci := 13) C 6 e12 f12 rfl inX12 (by decide) wd_713 dX12_inject_27 ?_
        refine xr_bipush (v := 60) C dX12_inject_30 rfl ?_
        refine xr_icmp_ne (tgt := 37) C dX12_inject_32 (by decide) (fun q14 => ?_) (fun q14 => ?_)
        · replace hm := hm.2 q14
          refine xr_iconst (v := 0) C dX12_inject_37 rfl ?_
          refine xr_istore (lv' := [(5, .int 0), (0, .ref a0), (1, .int xp1), (2, .int xp2), (3, .int xp3), (4, .int xp4)]) C dX12_inject_38 (by decide) rfl ?_
          obtain ⟨n15, hm⟩ := hm
          refine xr_sub [1, 2, 3, 4, 5, 0] rfl ?_
          exact k_X12_inject_L40 C hr hlk hnm hR n15 a0 xp1 xp2 xp3 xp4 0 _ _ _ hm
        · replace hm := hm.1 q14
          refine xr_iconst (v := 0) C dX12_inject_35 rfl ?_
          exact xr_zreturn C hr hlk (Or.inl rfl) hm dX12_inject_36
