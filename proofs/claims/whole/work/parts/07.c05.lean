set_option maxRecDepth 100000 in
set_option maxHeartbeats 4000000 in
theorem c_X11_alter {l : Launch} {D : va_G} {E : Ev} (a0 : Nat) (xp1 : Int32) (xp2 : Int32) (xp3 : Int32) (h : Hp) (kc ks : Nat) {Q : Int32 → Hp → Prop} (hm : m_X11_alter E a0 xp1 xp2 xp3 h kc ks Q) : XMet l yX11_alter cX11_alter 5 (some .boolean) 1 25 kc ks D E h [.ref a0, .int xp1, .int xp2, .int xp3] (fun A => va_Qi Q (XPost D A) A) := by
  refine xm_of (lv0 := [(0, .ref a0), (1, .int xp1), (2, .int xp2), (3, .int xp3)]) (by decide) (Nat.le_of_ble_eq_true rfl) rfl RX11 rfl (fun p e s m args below meth c A R hRm C hr hlk hnm => ?_)
  have hR : R.frames = 1 ∧ R.locals = 25 := by rw [hRm]; exact ⟨rfl, rfl⟩
  refine xr_aload_n (r := (some a0)) C dX11_alter_0 0 rfl ?_
  obtain ⟨fs1, r2, e1, f1, hm⟩ := hm
  refine xr_get (ci := 12) C 0 e1 f1 rfl inX11 (by decide) wd_523 dX11_alter_1 ?_
  obtain ⟨a4, rfl, hm⟩ := hm
  obtain ⟨fs3, r5, e3, f3, hm⟩ := hm
  refine xr_get (ci := 11) C 0 e3 f3 rfl inX10 (by decide) wd_572 dX11_alter_4 ?_
  refine xr_iload_n C dX11_alter_7 1 rfl ?_
  obtain ⟨a9, rfl, hm⟩ := hm
  obtain ⟨⟨fs6, e6⟩, hm⟩ := hm
  refine xr_cVq (n := 1) (As := [.int xp1]) (st := []) C (c_X9_get a9 xp1 h 0 0 hm) e6 rfl wd_602 wd_490 wd_491 wd_171 wd_489 (by decide +kernel) rfl (by rw [hR.1, hR.2]; decide) (Nat.zero_add _).symm (Nat.zero_add _).symm rfl (Nat.le_of_ble_eq_true rfl) dX11_alter_8 (fun r7 h8 hn => ?_)
  clear hm
  have hm := hn
  clear hn
  refine xr_astore (r := r7) (lv' := [(4, va_rf r7), (0, .ref a0), (1, .int xp1), (2, .int xp2), (3, .int xp3)]) C dX11_alter_11 (by decide) rfl ?_
  refine xr_aload (r := r7) C dX11_alter_13 0 rfl ?_
  refine xr_ifnull (tgt := 39) C dX11_alter_15 (by decide) (fun q10 => ?_) (fun a11 q10 => ?_)
  · replace hm := hm.1 q10
    subst q10
    refine xr_iconst (v := 0) C dX11_alter_39 rfl ?_
    exact xr_zreturn C hr hlk (Or.inl rfl) hm dX11_alter_40
  · replace hm := hm.2 a11 q10
    subst q10
    refine xr_aload (r := (some a11)) C dX11_alter_18 0 rfl ?_
    refine xr_iload_n C dX11_alter_20 3 rfl ?_
    obtain ⟨⟨fs12, e12⟩, hm⟩ := hm
    refine xr_cVi (n := 1) (As := [.int xp2]) (st := []) C (c_X4_has a11 xp2 h8 0 0 hm) e12 rfl wd_598 wd_600 wd_601 wd_143 wd_599 (by decide +kernel) rfl (by rw [hR.1, hR.2]; decide) (Nat.zero_add _).symm (Nat.zero_add _).symm rfl (Nat.le_of_ble_eq_true rfl) dX11_alter_21 (fun x13 h14 hn => ?_)
    clear hm
    have hm := hn
    clear hn
    refine xr_if_eq (tgt := 39) C dX11_alter_24 (by decide) (fun q15 => ?_) (fun q15 => ?_)
    · replace hm := hm.1 q15
      refine xr_iconst (v := 0) C dX11_alter_39 rfl ?_
      exact xr_zreturn C hr hlk (Or.inl rfl) hm dX11_alter_40
    · replace hm := hm.2 q15
      refine xr_iload_n C dX11_alter_27 4 rfl ?_
      refine xr_i2l (v := xp3.toInt64) C dX11_alter_28 rfl ?_
      refine xr_lconst (v := 0) C dX11_alter_29 rfl ?_
      refine xr_ldc2 (v := 255) C dX11_alter_30 wd_596 ?_
      refine xr_cSi (n := 3) (As := [.long xp3.toInt64, .long 0, .long 255]) (st := []) C (c_X11_isWithin xp3.toInt64 0 255 h14 0 0 hm) wd_554 wd_556 wd_557 wd_555 (by decide +kernel) rfl (by rw [hR.1, hR.2]; decide) (Nat.zero_add _).symm (Nat.zero_add _).symm rfl (Nat.le_of_ble_eq_true rfl) dX11_alter_33 (fun x17 h18 hn => ?_)
      clear hm
      have hm := hn
      clear hn
      refine xr_if_ne (tgt := 41) C dX11_alter_36 (by decide) (fun q19 => ?_) (fun q19 => ?_)
      · replace hm := hm.2 q19
        refine xr_aload (r := (some a11)) C dX11_alter_41 0 rfl ?_
        obtain ⟨fs20, r21, e20, f20, hm⟩ := hm
        refine xr_get (ci := 5) C 5 e20 f20 rfl inX4 (by decide) wd_597 dX11_alter_43 ?_
        refine xr_iload_n C dX11_alter_46 3 rfl ?_
        refine xr_iload_n C dX11_alter_47 4 rfl ?_
        obtain ⟨a23, rfl, hm⟩ := hm
        obtain ⟨N22, f22, e22, b22, h24, v22, hm⟩ := hm
        refine xr_iast C 0 rfl e22 b22 v22 dX11_alter_48 ?_
        refine xr_iconst (v := 1) C dX11_alter_49 rfl ?_
        exact xr_zreturn C hr hlk (Or.inr rfl) hm dX11_alter_50
      · replace hm := hm.1 q19
        refine xr_iconst (v := 0) C dX11_alter_39 rfl ?_
        exact xr_zreturn C hr hlk (Or.inl rfl) hm dX11_alter_40
set_option maxRecDepth 100000 in
set_option maxHeartbeats 4000000 in
theorem c_X11_drop {l : Launch} {D : va_G} {E : Ev} (a0 : Nat) (xp1 : Int32) (h : Hp) (kc ks : Nat) {Q : Int32 → Hp → Prop} (hm : m_X11_drop E a0 xp1 h kc ks Q) : XMet l yX11_drop cX11_drop 2 (some .boolean) 2 44 kc ks D E h [.ref a0, .int xp1] (fun A => va_Qi Q (XPost D A) A) := by
  refine xm_of (lv0 := [(0, .ref a0), (1, .int xp1)]) (by decide) (Nat.le_of_ble_eq_true rfl) rfl RX11 rfl (fun p e s m args below meth c A R hRm C hr hlk hnm => ?_)
  have hR : R.frames = 2 ∧ R.locals = 44 := by rw [hRm]; exact ⟨rfl, rfl⟩
  refine xr_aload_n (r := (some a0)) C dX11_drop_0 0 rfl ?_
  obtain ⟨fs1, r2, e1, f1, hm⟩ := hm
  refine xr_get (ci := 12) C 0 e1 f1 rfl inX11 (by decide) wd_523 dX11_drop_1 ?_
  obtain ⟨a4, rfl, hm⟩ := hm
  obtain ⟨fs3, r5, e3, f3, hm⟩ := hm
  refine xr_get (ci := 11) C 0 e3 f3 rfl inX10 (by decide) wd_572 dX11_drop_4 ?_
  refine xr_iload_n C dX11_drop_7 1 rfl ?_
  obtain ⟨a9, rfl, hm⟩ := hm
  obtain ⟨⟨fs6, e6⟩, hm⟩ := hm
  refine xr_cVq (n := 1) (As := [.int xp1]) (st := []) C (c_X9_takeOff a9 xp1 h 0 0 hm) e6 rfl wd_592 wd_594 wd_595 wd_171 wd_593 (by decide +kernel) rfl (by rw [hR.1, hR.2]; decide) (Nat.zero_add _).symm (Nat.zero_add _).symm rfl (Nat.le_of_ble_eq_true rfl) dX11_drop_8 (fun r7 h8 hn => ?_)
  clear hm
  have hm := hn
  clear hn
  refine xr_ifnull (tgt := 18) C dX11_drop_11 (by decide) (fun q10 => ?_) (fun a11 q10 => ?_)
  · replace hm := hm.1 q10
    subst q10
    refine xr_iconst (v := 0) C dX11_drop_18 rfl ?_
    exact xr_zreturn C hr hlk (Or.inl rfl) hm dX11_drop_19
  · replace hm := hm.2 a11 q10
    subst q10
    refine xr_iconst (v := 1) C dX11_drop_14 rfl ?_
    refine xr_goto (tgt := 19) C dX11_drop_15 (by decide) ?_
    exact xr_zreturn C hr hlk (Or.inr rfl) hm dX11_drop_19
set_option maxRecDepth 100000 in
set_option maxHeartbeats 4000000 in
theorem c_X11_again {l : Launch} {D : va_G} {E : Ev} (a0 : Nat) (xp1 : Int32) (h : Hp) (kc ks : Nat) {Q : Int32 → Hp → Prop} (hm : m_X11_again E a0 xp1 h kc ks Q) : XMet l yX11_again cX11_again 4 (some .boolean) 3 82 kc ks D E h [.ref a0, .int xp1] (fun A => va_Qi Q (XPost D A) A) := by
  refine xm_of (lv0 := [(0, .ref a0), (1, .int xp1)]) (by decide) (Nat.le_of_ble_eq_true rfl) rfl RX11 rfl (fun p e s m args below meth c A R hRm C hr hlk hnm => ?_)
  have hR : R.frames = 3 ∧ R.locals = 82 := by rw [hRm]; exact ⟨rfl, rfl⟩
  refine xr_aload_n (r := (some a0)) C dX11_again_0 0 rfl ?_
  obtain ⟨fs1, r2, e1, f1, hm⟩ := hm
  refine xr_get (ci := 12) C 0 e1 f1 rfl inX11 (by decide) wd_523 dX11_again_1 ?_
  obtain ⟨a4, rfl, hm⟩ := hm
  obtain ⟨fs3, r5, e3, f3, hm⟩ := hm
  refine xr_get (ci := 11) C 0 e3 f3 rfl inX10 (by decide) wd_572 dX11_again_4 ?_
  refine xr_iload_n C dX11_again_7 1 rfl ?_
  obtain ⟨a9, rfl, hm⟩ := hm
  obtain ⟨⟨fs6, e6⟩, hm⟩ := hm
  refine xr_cVq (n := 1) (As := [.int xp1]) (st := []) C (c_X9_get a9 xp1 h 0 0 hm) e6 rfl wd_602 wd_490 wd_491 wd_171 wd_489 (by decide +kernel) rfl (by rw [hR.1, hR.2]; decide) (Nat.zero_add _).symm (Nat.zero_add _).symm rfl (Nat.le_of_ble_eq_true rfl) dX11_again_8 (fun r7 h8 hn => ?_)
  clear hm
  have hm := hn
  clear hn
  refine xr_astore_n (r := r7) (lv' := [(2, va_rf r7), (0, .ref a0), (1, .int xp1)]) C dX11_again_11 (by decide) rfl ?_
  refine xr_aload_n (r := r7) C dX11_again_12 0 rfl ?_
  refine xr_ifnonnull (tgt := 18) C dX11_again_13 (by decide) (fun a11 q10 => ?_) (fun q10 => ?_)
  · replace hm := hm.2 a11 q10
    subst q10
    refine xr_aload_n (r := (some a0)) C dX11_again_18 1 rfl ?_
    obtain ⟨fs12, r13, e12, f12, hm⟩ := hm
    refine xr_get (ci := 12) C 0 e12 f12 rfl inX11 (by decide) wd_523 dX11_again_19 ?_
    obtain ⟨a15, rfl, hm⟩ := hm
    obtain ⟨fs14, r16, e14, f14, hm⟩ := hm
    refine xr_get (ci := 11) C 0 e14 f14 rfl inX10 (by decide) wd_572 dX11_again_22 ?_
    refine xr_aload_n (r := (some a11)) C dX11_again_25 0 rfl ?_
    obtain ⟨fs17, x18, e17, f17, hm⟩ := hm
    refine xr_get (ci := 5) C 0 e17 f17 rfl inX4 (by decide) wd_603 dX11_again_26 ?_
    refine xr_aload_n (r := (some a11)) C dX11_again_29 0 rfl ?_
    obtain ⟨fs19, x20, e19, f19, hm⟩ := hm
    refine xr_get (ci := 5) C 1 e19 f19 rfl inX4 (by decide) wd_604 dX11_again_30 ?_
    refine xr_aload_n (r := (some a11)) C dX11_again_33 0 rfl ?_
    obtain ⟨fs21, x22, e21, f21, hm⟩ := hm
    refine xr_get (ci := 5) C 2 e21 f21 rfl inX4 (by decide) wd_574 dX11_again_34 ?_
    refine xr_aload_n (r := (some a11)) C dX11_again_37 0 rfl ?_
    obtain ⟨fs23, x24, e23, f23, hm⟩ := hm
    refine xr_get (ci := 5) C 3 e23 f23 rfl inX4 (by decide) wd_575 dX11_again_38 ?_
    obtain ⟨a32, rfl, hm⟩ := hm
    obtain ⟨⟨fs25, e25⟩, hm⟩ := hm
    obtain ⟨mc26, ms27, kc28, ks29, kk25, kl25, hm⟩ := hm
    refine xr_cVq (n := 4) (As := [.int x18, .int x20, .int x22, .int x24]) (st := []) C (c_X9_add a32 x18 x20 x22 x24 h8 mc26 ms27 hm) e25 rfl wd_610 wd_169 wd_170 wd_171 wd_168 (by decide +kernel) rfl (by rw [hR.1, hR.2]; decide) kk25 kl25 rfl (Nat.le_of_ble_eq_true rfl) dX11_again_41 (fun r30 h31 hn => ?_)
    clear hm
    have hm := hn
    clear hn
    refine xr_astore_n (r := r30) (lv' := [(3, va_rf r30), (2, .ref a11), (0, .ref a0), (1, .int xp1)]) C dX11_again_44 (by decide) rfl ?_
    refine xr_aload_n (r := r30) C dX11_again_45 0 rfl ?_
    refine xr_ifnonnull (tgt := 51) C dX11_again_46 (by decide) (fun a34 q33 => ?_) (fun q33 => ?_)
    · replace hm := hm.2 a34 q33
      subst q33
      refine xr_aload_n (r := (some a34)) C dX11_again_51 0 rfl ?_
      refine xr_aload_n (r := (some a11)) C dX11_again_52 1 rfl ?_
      obtain ⟨fs35, r36, e35, f35, hm⟩ := hm
      refine xr_get (ci := 5) C 5 e35 f35 rfl inX4 (by decide) wd_597 dX11_again_53 ?_
      refine xr_aload_n (r := (some a11)) C dX11_again_56 1 rfl ?_
      obtain ⟨fs37, x38, e37, f37, hm⟩ := hm
      refine xr_get (ci := 5) C 4 e37 f37 rfl inX4 (by decide) wd_605 dX11_again_57 ?_
      obtain ⟨⟨fs39, e39⟩, hm⟩ := hm
      refine xr_cVv (n := 2) (As := [va_rf r36, .int x38]) (st := []) C (c_X4_copyBytes a34 r36 x38 h31 0 0 hm) e39 rfl wd_606 wd_608 wd_609 wd_143 wd_607 (by decide +kernel) rfl (by rw [hR.1, hR.2]; decide) (Nat.zero_add _).symm (Nat.zero_add _).symm rfl (Nat.le_of_ble_eq_true rfl) dX11_again_60 (fun h41 hn => ?_)
      clear hm
      have hm := hn
      clear hn
      refine xr_iconst (v := 1) C dX11_again_63 rfl ?_
      exact xr_zreturn C hr hlk (Or.inr rfl) hm dX11_again_64
    · replace hm := hm.1 q33
      subst q33
      refine xr_iconst (v := 0) C dX11_again_49 rfl ?_
      exact xr_zreturn C hr hlk (Or.inl rfl) hm dX11_again_50
  · replace hm := hm.1 q10
    subst q10
    refine xr_iconst (v := 0) C dX11_again_16 rfl ?_
    exact xr_zreturn C hr hlk (Or.inl rfl) hm dX11_again_17
set_option maxRecDepth 100000 in
set_option maxHeartbeats 4000000 in
theorem c_X11_put {l : Launch} {D : va_G} {E : Ev} (a0 : Nat) (xp1 : Int32) (h : Hp) (kc ks : Nat) {Q : Int32 → Hp → Prop} (hm : m_X11_put E a0 xp1 h kc ks Q) : XMet l yX11_put cX11_put 2 (some .int) 1 25 kc ks D E h [.ref a0, .int xp1] (fun A => va_Qi Q (XPost D A) A) := by
  refine xm_of (lv0 := [(0, .ref a0), (1, .int xp1)]) (by decide) (Nat.le_of_ble_eq_true rfl) rfl RX11 rfl (fun p e s m args below meth c A R hRm C hr hlk hnm => ?_)
  have hR : R.frames = 1 ∧ R.locals = 25 := by rw [hRm]; exact ⟨rfl, rfl⟩
  refine xr_aload_n (r := (some a0)) C dX11_put_0 0 rfl ?_
  obtain ⟨fs1, x2, e1, f1, hm⟩ := hm
  refine xr_get (ci := 12) C 3 e1 f1 rfl inX11 (by decide) wd_526 dX11_put_1 ?_
  refine xr_bipush (v := 64) C dX11_put_4 rfl ?_
  refine xr_icmp_ge (tgt := 21) C dX11_put_6 (by decide) (fun q3 => ?_) (fun q3 => ?_)
  · replace hm := hm.1 q3
    refine xr_iconst (v := (-1)) C dX11_put_21 rfl ?_
    exact xr_ireturn C hr hlk hm dX11_put_22
  · replace hm := hm.2 q3
    refine xr_iload_n C dX11_put_9 1 rfl ?_
    refine xr_i2l (v := xp1.toInt64) C dX11_put_10 rfl ?_
    refine xr_lconst (v := 0) C dX11_put_11 rfl ?_
    refine xr_ldc2 (v := 255) C dX11_put_12 wd_596 ?_
    refine xr_cSi (n := 3) (As := [.long xp1.toInt64, .long 0, .long 255]) (st := []) C (c_X11_isWithin xp1.toInt64 0 255 h 0 0 hm) wd_554 wd_556 wd_557 wd_555 (by decide +kernel) rfl (by rw [hR.1, hR.2]; decide) (Nat.zero_add _).symm (Nat.zero_add _).symm rfl (Nat.le_of_ble_eq_true rfl) dX11_put_15 (fun x5 h6 hn => ?_)
    clear hm
    have hm := hn
    clear hn
    refine xr_if_ne (tgt := 23) C dX11_put_18 (by decide) (fun q7 => ?_) (fun q7 => ?_)
    · replace hm := hm.2 q7
      refine xr_aload_n (r := (some a0)) C dX11_put_23 0 rfl ?_
      obtain ⟨fs8, r9, e8, f8, hm⟩ := hm
      refine xr_get (ci := 12) C 2 e8 f8 rfl inX11 (by decide) wd_525 dX11_put_24 ?_
      refine xr_aload_n (r := (some a0)) C dX11_put_27 0 rfl ?_
      obtain ⟨fs10, x11, e10, f10, hm⟩ := hm
      refine xr_get (ci := 12) C 3 e10 f10 rfl inX11 (by decide) wd_526 dX11_put_28 ?_
      refine xr_iload_n C dX11_put_31 1 rfl ?_
      obtain ⟨a13, rfl, hm⟩ := hm
      obtain ⟨N12, f12, e12, b12, h14, v12, hm⟩ := hm
      refine xr_iast C 0 rfl e12 b12 v12 dX11_put_32 ?_
      refine xr_aload_n (r := (some a0)) C dX11_put_33 0 rfl ?_
      refine xr_dup C dX11_put_34 rfl ?_
      obtain ⟨fs15, x16, e15, f15, hm⟩ := hm
      refine xr_get (ci := 12) C 3 e15 f15 rfl inX11 (by decide) wd_526 dX11_put_35 ?_
      refine xr_iconst (v := 1) C dX11_put_38 rfl ?_
      refine xr_iadd C dX11_put_39 ?_
      obtain ⟨fs17, e17, f17, h18, eh17, hm⟩ := hm
      refine xr_put (ci := 12) (v := .int (x16 + 1)) C 3 .int tyX11 tyX11_ok nmX11 e17 f17 rfl inX11 (by decide) wd_526 rfl (by decide) rfl rfl eh17 dX11_put_40 ?_
      refine xr_aload_n (r := (some a0)) C dX11_put_43 0 rfl ?_
      obtain ⟨fs19, x20, e19, f19, hm⟩ := hm
      refine xr_get (ci := 12) C 3 e19 f19 rfl inX11 (by decide) wd_526 dX11_put_44 ?_
      exact xr_ireturn C hr hlk hm dX11_put_47
    · replace hm := hm.1 q7
      refine xr_iconst (v := (-1)) C dX11_put_21 rfl ?_
      exact xr_ireturn C hr hlk hm dX11_put_22
set_option maxRecDepth 100000 in
set_option maxHeartbeats 4000000 in
theorem c_X11_inject {l : Launch} {D : va_G} {E : Ev} (a0 : Nat) (xp1 : Int32) (xp2 : Int32) (xp3 : Int32) (xp4 : Int32) (h : Hp) (kc ks : Nat) {Q : Int32 → Hp → Prop} (hm : m_X11_inject E a0 xp1 xp2 xp3 xp4 h kc ks Q) : XMet l yX11_inject cX11_inject 6 (some .boolean) 3 82 kc ks D E h [.ref a0, .int xp1, .int xp2, .int xp3, .int xp4] (fun A => va_Qi Q (XPost D A) A) := by
  refine xm_of (lv0 := [(0, .ref a0), (1, .int xp1), (2, .int xp2), (3, .int xp3), (4, .int xp4)]) (by decide) (Nat.le_of_ble_eq_true rfl) rfl RX11 rfl (fun p e s m args below meth c A R hRm C hr hlk hnm => ?_)
  have hR : R.frames = 3 ∧ R.locals = 82 := by rw [hRm]; exact ⟨rfl, rfl⟩
  refine xr_aload_n (r := (some a0)) C dX11_inject_0 0 rfl ?_
  obtain ⟨fs1, x2, e1, f1, hm⟩ := hm
  refine xr_get (ci := 12) C 3 e1 f1 rfl inX11 (by decide) wd_526 dX11_inject_1 ?_
  refine xr_if_eq (tgt := 32) C dX11_inject_4 (by decide) (fun q3 => ?_) (fun q3 => ?_)
  · replace hm := hm.1 q3
    refine xr_iconst (v := 0) C dX11_inject_32 rfl ?_
    exact xr_zreturn C hr hlk (Or.inl rfl) hm dX11_inject_33
  · replace hm := hm.2 q3
    refine xr_aload_n (r := (some a0)) C dX11_inject_7 0 rfl ?_
    obtain ⟨fs4, r5, e4, f4, hm⟩ := hm
    refine xr_get (ci := 12) C 0 e4 f4 rfl inX11 (by decide) wd_523 dX11_inject_8 ?_
    refine xr_iload_n C dX11_inject_11 1 rfl ?_
    refine xr_iload_n C dX11_inject_12 2 rfl ?_
    obtain ⟨a9, rfl, hm⟩ := hm
    obtain ⟨⟨fs6, e6⟩, hm⟩ := hm
    refine xr_cVi (n := 2) (As := [.int xp1, .int xp2]) (st := []) C (c_X10_isSomebody a9 xp1 xp2 h 0 0 hm) e6 rfl wd_611 wd_613 wd_614 wd_178 wd_612 (by decide +kernel) rfl (by rw [hR.1, hR.2]; decide) (Nat.zero_add _).symm (Nat.zero_add _).symm rfl (Nat.le_of_ble_eq_true rfl) dX11_inject_13 (fun x7 h8 hn => ?_)
    clear hm
    have hm := hn
    clear hn
    refine xr_if_eq (tgt := 32) C dX11_inject_16 (by decide) (fun q10 => ?_) (fun q10 => ?_)
    · replace hm := hm.1 q10
      refine xr_iconst (v := 0) C dX11_inject_32 rfl ?_
      exact xr_zreturn C hr hlk (Or.inl rfl) hm dX11_inject_33
    · replace hm := hm.2 q10
      refine xr_aload_n (r := (some a0)) C dX11_inject_19 0 rfl ?_
      obtain ⟨fs11, r12, e11, f11, hm⟩ := hm
      refine xr_get (ci := 12) C 0 e11 f11 rfl inX11 (by decide) wd_523 dX11_inject_20 ?_
      refine xr_iload_n C dX11_inject_23 3 rfl ?_
      refine xr_iload C dX11_inject_24 4 rfl ?_
      obtain ⟨a16, rfl, hm⟩ := hm
      obtain ⟨⟨fs13, e13⟩, hm⟩ := hm
      refine xr_cVi (n := 2) (As := [.int xp3, .int xp4]) (st := []) C (c_X10_isSomebody a16 xp3 xp4 h8 0 0 hm) e13 rfl wd_611 wd_613 wd_614 wd_178 wd_612 (by decide +kernel) rfl (by rw [hR.1, hR.2]; decide) (Nat.zero_add _).symm (Nat.zero_add _).symm rfl (Nat.le_of_ble_eq_true rfl) dX11_inject_26 (fun x14 h15 hn => ?_)
      clear hm
      have hm := hn
      clear hn
      refine xr_if_ne (tgt := 34) C dX11_inject_29 (by decide) (fun q17 => ?_) (fun q17 => ?_)
      · replace hm := hm.2 q17
        refine xr_aload_n (r := (some a0)) C dX11_inject_34 0 rfl ?_
        obtain ⟨fs18, r19, e18, f18, hm⟩ := hm
        refine xr_get (ci := 12) C 0 e18 f18 rfl inX11 (by decide) wd_523 dX11_inject_35 ?_
        obtain ⟨a21, rfl, hm⟩ := hm
        obtain ⟨fs20, r22, e20, f20, hm⟩ := hm
        refine xr_get (ci := 11) C 0 e20 f20 rfl inX10 (by decide) wd_572 dX11_inject_38 ?_
        refine xr_iload_n C dX11_inject_41 1 rfl ?_
        refine xr_iload_n C dX11_inject_42 2 rfl ?_
        refine xr_iload_n C dX11_inject_43 3 rfl ?_
        refine xr_iload C dX11_inject_44 4 rfl ?_
        obtain ⟨a30, rfl, hm⟩ := hm
        obtain ⟨⟨fs23, e23⟩, hm⟩ := hm
        obtain ⟨mc24, ms25, kc26, ks27, kk23, kl23, hm⟩ := hm
        refine xr_cVq (n := 4) (As := [.int xp1, .int xp2, .int xp3, .int xp4]) (st := []) C (c_X9_add a30 xp1 xp2 xp3 xp4 h15 mc24 ms25 hm) e23 rfl wd_610 wd_169 wd_170 wd_171 wd_168 (by decide +kernel) rfl (by rw [hR.1, hR.2]; decide) kk23 kl23 rfl (Nat.le_of_ble_eq_true rfl) dX11_inject_46 (fun r28 h29 hn => ?_)
        clear hm
        have hm := hn
        clear hn
        refine xr_astore (r := r28) (lv' := [(5, va_rf r28), (0, .ref a0), (1, .int xp1), (2, .int xp2), (3, .int xp3), (4, .int xp4)]) C dX11_inject_49 (by decide) rfl ?_
        refine xr_aload (r := r28) C dX11_inject_51 0 rfl ?_
        refine xr_ifnonnull (tgt := 58) C dX11_inject_53 (by decide) (fun a32 q31 => ?_) (fun q31 => ?_)
        · replace hm := hm.2 a32 q31
          subst q31
          refine xr_aload (r := (some a32)) C dX11_inject_58 0 rfl ?_
          refine xr_aload_n (r := (some a0)) C dX11_inject_60 1 rfl ?_
          obtain ⟨fs33, r34, e33, f33, hm⟩ := hm
          refine xr_get (ci := 12) C 2 e33 f33 rfl inX11 (by decide) wd_525 dX11_inject_61 ?_
          refine xr_aload_n (r := (some a0)) C dX11_inject_64 1 rfl ?_
          obtain ⟨fs35, x36, e35, f35, hm⟩ := hm
          refine xr_get (ci := 12) C 3 e35 f35 rfl inX11 (by decide) wd_526 dX11_inject_65 ?_
          obtain ⟨⟨fs37, e37⟩, hm⟩ := hm
          refine xr_cVv (n := 2) (As := [va_rf r34, .int x36]) (st := []) C (c_X4_copyBytes a32 r34 x36 h29 0 0 hm) e37 rfl wd_606 wd_608 wd_609 wd_143 wd_607 (by decide +kernel) rfl (by rw [hR.1, hR.2]; decide) (Nat.zero_add _).symm (Nat.zero_add _).symm rfl (Nat.le_of_ble_eq_true rfl) dX11_inject_68 (fun h39 hn => ?_)
          clear hm
          have hm := hn
          clear hn
          refine xr_aload_n (r := (some a0)) C dX11_inject_71 1 rfl ?_
          refine xr_iconst (v := 0) C dX11_inject_72 rfl ?_
          obtain ⟨fs40, e40, f40, h41, eh40, hm⟩ := hm
          refine xr_put (ci := 12) (v := .int 0) C 3 .int tyX11 tyX11_ok nmX11 e40 f40 rfl inX11 (by decide) wd_526 rfl (by decide) rfl rfl eh40 dX11_inject_73 ?_
          refine xr_iconst (v := 1) C dX11_inject_76 rfl ?_
          exact xr_zreturn C hr hlk (Or.inr rfl) hm dX11_inject_77
        · replace hm := hm.1 q31
          subst q31
          refine xr_iconst (v := 0) C dX11_inject_56 rfl ?_
          exact xr_zreturn C hr hlk (Or.inl rfl) hm dX11_inject_57
      · replace hm := hm.1 q17
        refine xr_iconst (v := 0) C dX11_inject_32 rfl ?_
        exact xr_zreturn C hr hlk (Or.inl rfl) hm dX11_inject_33
set_option maxRecDepth 100000 in
set_option maxHeartbeats 4000000 in
theorem c_X11_power {l : Launch} {D : va_G} {E : Ev} (a0 : Nat) (xp1 : Int32) (xp2 : Int32) (h : Hp) (kc ks : Nat) {Q : Int32 → Hp → Prop} (hm : m_X11_power E a0 xp1 xp2 h kc ks Q) : XMet l yX11_power cX11_power 3 (some .boolean) 3 64 kc ks D E h [.ref a0, .int xp1, .int xp2] (fun A => va_Qi Q (XPost D A) A) := by
  refine xm_of (lv0 := [(0, .ref a0), (1, .int xp1), (2, .int xp2)]) (by decide) (Nat.le_of_ble_eq_true rfl) rfl RX11 rfl (fun p e s m args below meth c A R hRm C hr hlk hnm => ?_)
  have hR : R.frames = 3 ∧ R.locals = 64 := by rw [hRm]; exact ⟨rfl, rfl⟩
  refine xr_aload_n (r := (some a0)) C dX11_power_0 0 rfl ?_
  obtain ⟨fs1, r2, e1, f1, hm⟩ := hm
  refine xr_get (ci := 12) C 0 e1 f1 rfl inX11 (by decide) wd_523 dX11_power_1 ?_
  refine xr_iload_n C dX11_power_4 1 rfl ?_
  obtain ⟨a6, rfl, hm⟩ := hm
  obtain ⟨⟨fs3, e3⟩, hm⟩ := hm
  refine xr_cVi (n := 1) (As := [.int xp1]) (st := []) C (c_X10_isCard a6 xp1 h 0 0 hm) e3 rfl wd_570 wd_436 wd_437 wd_178 wd_435 (by decide +kernel) rfl (by rw [hR.1, hR.2]; decide) (Nat.zero_add _).symm (Nat.zero_add _).symm rfl (Nat.le_of_ble_eq_true rfl) dX11_power_5 (fun x4 h5 hn => ?_)
  clear hm
  have hm := hn
  clear hn
  refine xr_if_eq (tgt := 23) C dX11_power_8 (by decide) (fun q7 => ?_) (fun q7 => ?_)
  · replace hm := hm.1 q7
    refine xr_iconst (v := 0) C dX11_power_23 rfl ?_
    exact xr_zreturn C hr hlk (Or.inl rfl) hm dX11_power_24
  · replace hm := hm.2 q7
    refine xr_iload_n C dX11_power_11 2 rfl ?_
    refine xr_i2l (v := xp2.toInt64) C dX11_power_12 rfl ?_
    refine xr_lconst (v := 0) C dX11_power_13 rfl ?_
    refine xr_ldc2 (v := 9) C dX11_power_14 wd_539 ?_
    refine xr_cSi (n := 3) (As := [.long xp2.toInt64, .long 0, .long 9]) (st := []) C (c_X11_isWithin xp2.toInt64 0 9 h5 0 0 hm) wd_554 wd_556 wd_557 wd_555 (by decide +kernel) rfl (by rw [hR.1, hR.2]; decide) (Nat.zero_add _).symm (Nat.zero_add _).symm rfl (Nat.le_of_ble_eq_true rfl) dX11_power_17 (fun x9 h10 hn => ?_)
    clear hm
    have hm := hn
    clear hn
    refine xr_if_ne (tgt := 25) C dX11_power_20 (by decide) (fun q11 => ?_) (fun q11 => ?_)
    · replace hm := hm.2 q11
      refine xr_aload_n (r := (some a0)) C dX11_power_25 0 rfl ?_
      obtain ⟨fs12, r13, e12, f12, hm⟩ := hm
      refine xr_get (ci := 12) C 0 e12 f12 rfl inX11 (by decide) wd_523 dX11_power_26 ?_
      obtain ⟨a15, rfl, hm⟩ := hm
      obtain ⟨fs14, r16, e14, f14, hm⟩ := hm
      refine xr_get (ci := 11) C 2 e14 f14 rfl inX10 (by decide) wd_536 dX11_power_29 ?_
      refine xr_iload_n C dX11_power_32 1 rfl ?_
      obtain ⟨a20, rfl, hm⟩ := hm
      obtain ⟨⟨fs17, e17⟩, hm⟩ := hm
      refine xr_cVq (n := 1) (As := [.int xp1]) (st := []) C (c_Jx4a65c_get_915e3 a20 xp1 h10 0 0 hm) e17 rfl wd_569 wd_134 wd_135 wd_45 wd_133 (by decide +kernel) rfl (by rw [hR.1, hR.2]; decide) (Nat.zero_add _).symm (Nat.zero_add _).symm rfl (Nat.le_of_ble_eq_true rfl) dX11_power_33 (fun r18 h19 hn => ?_)
      clear hm
      have hm := hn
      clear hn
      obtain ⟨a22, rfl, hm⟩ := hm
      obtain ⟨⟨fs21, e21⟩, hm⟩ := hm
      refine xr_cast C e21 rfl wd_552 dX11_power_36 ?_
      refine xr_iload_n C dX11_power_39 2 rfl ?_
      obtain ⟨fs23, e23, f23, h24, eh23, hm⟩ := hm
      refine xr_put (ci := 2) (v := .int xp2) C 9 .int tyX1 tyX1_ok nmX1 e23 f23 rfl inX1 (by decide) wd_615 rfl (by decide) rfl rfl eh23 dX11_power_40 ?_
      refine xr_iconst (v := 1) C dX11_power_43 rfl ?_
      exact xr_zreturn C hr hlk (Or.inr rfl) hm dX11_power_44
    · replace hm := hm.1 q11
      refine xr_iconst (v := 0) C dX11_power_23 rfl ?_
      exact xr_zreturn C hr hlk (Or.inl rfl) hm dX11_power_24
set_option maxRecDepth 100000 in
set_option maxHeartbeats 4000000 in
theorem k_X11_tick_L56 {p : Program} {l : Launch} {e : Env} {R : Room} {s : State} {m : MethodId} {args : Array Value} {below : List Frame} {meth : Method} {c : Code} {D : va_G} {E : Ev} {A : Nat → Prop} {KC KS : Nat} (C : XC p R s m args c D E A 4 RX11 cX11_tick KC KS) (hr : meth.sig.returnType = (some .int)) (hlk : meth.locks = false) (hnm : meth.name = "tick") (hR : R.frames = 3 ∧ R.locals = 64) {K18 : Nat → Int32 → Int32 → Int32 → Hp → Nat → Nat → Prop} {Q : Int32 → Hp → Prop} (hK18 : ∀ (a0 : Nat) (xv1 : Int32) (xv2 : Int32) (xv3 : Int32) (h : Hp) (kc ks : Nat), K18 a0 xv1 xv2 xv3 h kc ks → XW p l e R s m args below meth c (MQ below (va_Qi Q (XPost D A) A) args s KC KS A) D A KC KS 4 h kc ks [(0, .ref a0), (1, .int xv1), (2, .int xv2), (3, .int xv3)] 18 []) : ∀ (a0 : Nat) (xv1 : Int32) (xv2 : Int32) (xv3 : Int32) (h : Hp) (kc ks : Nat), m_X11_tick_L56 E a0 xv1 xv2 xv3 h kc ks K18 Q → XW p l e R s m args below meth c (MQ below (va_Qi Q (XPost D A) A) args s KC KS A) D A KC KS 4 h kc ks [(0, .ref a0), (1, .int xv1), (2, .int xv2), (3, .int xv3)] 56 [] := by
  intro a0 xv1 xv2 xv3 h kc ks hm
  refine xr_iinc (j := 3) (v := xv3 + 1) (lv' := [(3, .int (xv3 + 1)), (0, .ref a0), (1, .int xv1), (2, .int xv2)]) C dX11_tick_56 rfl rfl (by decide) rfl ?_
  refine xr_goto (tgt := 18) C dX11_tick_59 (by decide) ?_
  refine xr_sub [1, 2, 3, 0] rfl ?_
  exact hK18 a0 xv1 xv2 (xv3 + 1) _ _ _ hm
set_option maxRecDepth 100000 in
set_option maxHeartbeats 4000000 in
theorem k_X11_tick_L18 {p : Program} {l : Launch} {e : Env} {R : Room} {s : State} {m : MethodId} {args : Array Value} {below : List Frame} {meth : Method} {c : Code} {D : va_G} {E : Ev} {A : Nat → Prop} {KC KS : Nat} (C : XC p R s m args c D E A 4 RX11 cX11_tick KC KS) (hr : meth.sig.returnType = (some .int)) (hlk : meth.locks = false) (hnm : meth.name = "tick") (hR : R.frames = 3 ∧ R.locals = 64) {Q : Int32 → Hp → Prop} : ∀ (n : Nat) (a0 : Nat) (xv1 : Int32) (xv2 : Int32) (xv3 : Int32) (h : Hp) (kc ks : Nat), m_X11_tick_L18 n E a0 xv1 xv2 xv3 h kc ks Q → XW p l e R s m args below meth c (MQ below (va_Qi Q (XPost D A) A) args s KC KS A) D A KC KS 4 h kc ks [(0, .ref a0), (1, .int xv1), (2, .int xv2), (3, .int xv3)] 18 [] := by
  intro n
  induction n with
  | zero => intro a0 xv1 xv2 xv3 h kc ks hm; exact False.elim hm
  | succ n ih =>
    intro a0 xv1 xv2 xv3 h kc ks hm
    refine xr_iload_n C dX11_tick_18 3 rfl ?_
    refine xr_aload_n (r := (some a0)) C dX11_tick_19 0 rfl ?_
    obtain ⟨fs6, r7, e6, f6, hm⟩ := hm
    refine xr_get (ci := 12) C 0 e6 f6 rfl inX11 (by decide) wd_523 dX11_tick_20 ?_
    obtain ⟨a9, rfl, hm⟩ := hm
    obtain ⟨fs8, r10, e8, f8, hm⟩ := hm
    refine xr_get (ci := 11) C 3 e8 f8 rfl inX10 (by decide) wd_559 dX11_tick_23 ?_
    obtain ⟨a14, rfl, hm⟩ := hm
    obtain ⟨⟨fs11, e11⟩, hm⟩ := hm
    refine xr_cVi (n := 0) (As := []) (st := [.int xv3]) C (c_Jx4a65c_size_8abf5 a14 h 0 0 hm) e11 rfl wd_558 wd_113 wd_114 wd_45 wd_112 (by decide +kernel) rfl (by rw [hR.1, hR.2]; decide) (Nat.zero_add _).symm (Nat.zero_add _).symm rfl (Nat.le_of_ble_eq_true rfl) dX11_tick_26 (fun x12 h13 hn => ?_)
    clear hm
    have hm := hn
    clear hn
    refine xr_icmp_ge (tgt := 62) C dX11_tick_29 (by decide) (fun q15 => ?_) (fun q15 => ?_)
    · replace hm := hm.1 q15
      refine xr_iload_n C dX11_tick_62 2 rfl ?_
      exact xr_ireturn C hr hlk hm dX11_tick_63
    · replace hm := hm.2 q15
      refine xr_aload_n (r := (some a0)) C dX11_tick_32 0 rfl ?_
      obtain ⟨fs16, r17, e16, f16, hm⟩ := hm
      refine xr_get (ci := 12) C 0 e16 f16 rfl inX11 (by decide) wd_523 dX11_tick_33 ?_
      obtain ⟨a19, rfl, hm⟩ := hm
      obtain ⟨fs18, r20, e18, f18, hm⟩ := hm
      refine xr_get (ci := 11) C 3 e18 f18 rfl inX10 (by decide) wd_559 dX11_tick_36 ?_
      refine xr_iload_n C dX11_tick_39 3 rfl ?_
      obtain ⟨a24, rfl, hm⟩ := hm
      obtain ⟨⟨fs21, e21⟩, hm⟩ := hm
      refine xr_cVq (n := 1) (As := [.int xv3]) (st := []) C (c_Jx4a65c_get_915e3 a24 xv3 h13 0 0 hm) e21 rfl wd_569 wd_134 wd_135 wd_45 wd_133 (by decide +kernel) rfl (by rw [hR.1, hR.2]; decide) (Nat.zero_add _).symm (Nat.zero_add _).symm rfl (Nat.le_of_ble_eq_true rfl) dX11_tick_40 (fun r22 h23 hn => ?_)
      clear hm
      have hm := hn
      clear hn
      obtain ⟨a26, rfl, hm⟩ := hm
      obtain ⟨⟨fs25, e25⟩, hm⟩ := hm
      refine xr_cast C e25 rfl wd_563 dX11_tick_43 ?_
      refine xr_iload_n C dX11_tick_46 1 rfl ?_
      obtain ⟨⟨fs27, e27⟩, hm⟩ := hm
      refine xr_cVi (n := 1) (As := [.int xv1]) (st := []) C (c_X8_givesUpAfter a26 xv1 h23 0 0 hm) e27 rfl wd_617 wd_619 wd_620 wd_405 wd_618 (by decide +kernel) rfl (by rw [hR.1, hR.2]; decide) (Nat.zero_add _).symm (Nat.zero_add _).symm rfl (Nat.le_of_ble_eq_true rfl) dX11_tick_47 (fun x28 h29 hn => ?_)
      clear hm
      have hm := hn
      clear hn
      refine xr_if_eq (tgt := 56) C dX11_tick_50 (by decide) (fun q30 => ?_) (fun q30 => ?_)
      · replace hm := hm.1 q30
        exact k_X11_tick_L56 C hr hlk hnm hR ih a0 xv1 xv2 xv3 _ _ _ hm
      · replace hm := hm.2 q30
        refine xr_iinc (j := 2) (v := xv2 + 1) (lv' := [(2, .int (xv2 + 1)), (0, .ref a0), (1, .int xv1), (3, .int xv3)]) C dX11_tick_53 rfl rfl (by decide) rfl ?_
        refine xr_sub [1, 2, 0, 3] rfl ?_
        exact k_X11_tick_L56 C hr hlk hnm hR ih a0 xv1 (xv2 + 1) xv3 _ _ _ hm
set_option maxRecDepth 100000 in
set_option maxHeartbeats 4000000 in
theorem c_X11_tick {l : Launch} {D : va_G} {E : Ev} (a0 : Nat) (xp1 : Int32) (h : Hp) (kc ks : Nat) {Q : Int32 → Hp → Prop} (hm : m_X11_tick E a0 xp1 h kc ks Q) : XMet l yX11_tick cX11_tick 4 (some .int) 3 64 kc ks D E h [.ref a0, .int xp1] (fun A => va_Qi Q (XPost D A) A) := by
  refine xm_of (lv0 := [(0, .ref a0), (1, .int xp1)]) (by decide) (Nat.le_of_ble_eq_true rfl) rfl RX11 rfl (fun p e s m args below meth c A R hRm C hr hlk hnm => ?_)
  have hR : R.frames = 3 ∧ R.locals = 64 := by rw [hRm]; exact ⟨rfl, rfl⟩
  refine xr_iload_n C dX11_tick_0 1 rfl ?_
  refine xr_i2l (v := xp1.toInt64) C dX11_tick_1 rfl ?_
  refine xr_lconst (v := 1) C dX11_tick_2 rfl ?_
  refine xr_ldc2 (v := 100) C dX11_tick_3 wd_616 ?_
  refine xr_cSi (n := 3) (As := [.long xp1.toInt64, .long 1, .long 100]) (st := []) C (c_X11_isWithin xp1.toInt64 1 100 h 0 0 hm) wd_554 wd_556 wd_557 wd_555 (by decide +kernel) rfl (by rw [hR.1, hR.2]; decide) (Nat.zero_add _).symm (Nat.zero_add _).symm rfl (Nat.le_of_ble_eq_true rfl) dX11_tick_6 (fun x2 h3 hn => ?_)
  clear hm
  have hm := hn
  clear hn
  refine xr_if_ne (tgt := 14) C dX11_tick_9 (by decide) (fun q4 => ?_) (fun q4 => ?_)
  · replace hm := hm.2 q4
    refine xr_iconst (v := 0) C dX11_tick_14 rfl ?_
    refine xr_istore_n (lv' := [(2, .int 0), (0, .ref a0), (1, .int xp1)]) C dX11_tick_15 (by decide) rfl ?_
    refine xr_iconst (v := 0) C dX11_tick_16 rfl ?_
    refine xr_istore_n (lv' := [(3, .int 0), (2, .int 0), (0, .ref a0), (1, .int xp1)]) C dX11_tick_17 (by decide) rfl ?_
    obtain ⟨n5, hm⟩ := hm
    refine xr_sub [2, 3, 1, 0] rfl ?_
    exact k_X11_tick_L18 C hr hlk hnm hR n5 a0 xp1 0 0 _ _ _ hm
  · replace hm := hm.1 q4
    refine xr_iconst (v := (-1)) C dX11_tick_12 rfl ?_
    exact xr_ireturn C hr hlk hm dX11_tick_13
set_option maxRecDepth 100000 in
set_option maxHeartbeats 4000000 in
theorem c_X11_clear {l : Launch} {D : va_G} {E : Ev} (a0 : Nat) (xp1 : Int32) (h : Hp) (kc ks : Nat) {Q : Int32 → Hp → Prop} (hm : m_X11_clear E a0 xp1 h kc ks Q) : XMet l yX11_clear cX11_clear 2 (some .int) 10 257 kc ks D E h [.ref a0, .int xp1] (fun A => va_Qi Q (XPost D A) A) := by
  refine xm_of (lv0 := [(0, .ref a0), (1, .int xp1)]) (by decide) (Nat.le_of_ble_eq_true rfl) rfl RX11 rfl (fun p e s m args below meth c A R hRm C hr hlk hnm => ?_)
  have hR : R.frames = 10 ∧ R.locals = 257 := by rw [hRm]; exact ⟨rfl, rfl⟩
  refine xr_aload_n (r := (some a0)) C dX11_clear_0 0 rfl ?_
  obtain ⟨fs1, r2, e1, f1, hm⟩ := hm
  refine xr_get (ci := 12) C 0 e1 f1 rfl inX11 (by decide) wd_523 dX11_clear_1 ?_
  refine xr_iload_n C dX11_clear_4 1 rfl ?_
  obtain ⟨a6, rfl, hm⟩ := hm
  obtain ⟨⟨fs3, e3⟩, hm⟩ := hm
  refine xr_cVi (n := 1) (As := [.int xp1]) (st := []) C (c_X10_isTerminal a6 xp1 h 0 0 hm) e3 rfl wd_571 wd_319 wd_320 wd_178 wd_318 (by decide +kernel) rfl (by rw [hR.1, hR.2]; decide) (Nat.zero_add _).symm (Nat.zero_add _).symm rfl (Nat.le_of_ble_eq_true rfl) dX11_clear_5 (fun x4 h5 hn => ?_)
  clear hm
  have hm := hn
  clear hn
  refine xr_if_eq (tgt := 31) C dX11_clear_8 (by decide) (fun q7 => ?_) (fun q7 => ?_)
  · replace hm := hm.1 q7
    refine xr_iconst (v := (-1)) C dX11_clear_31 rfl ?_
    exact xr_ireturn C hr hlk hm dX11_clear_32
  · replace hm := hm.2 q7
    refine xr_aload_n (r := (some a0)) C dX11_clear_11 0 rfl ?_
    obtain ⟨fs8, r9, e8, f8, hm⟩ := hm
    refine xr_get (ci := 12) C 0 e8 f8 rfl inX11 (by decide) wd_523 dX11_clear_12 ?_
    obtain ⟨a11, rfl, hm⟩ := hm
    obtain ⟨fs10, r12, e10, f10, hm⟩ := hm
    refine xr_get (ci := 11) C 3 e10 f10 rfl inX10 (by decide) wd_559 dX11_clear_15 ?_
    refine xr_iload_n C dX11_clear_18 1 rfl ?_
    obtain ⟨a16, rfl, hm⟩ := hm
    obtain ⟨⟨fs13, e13⟩, hm⟩ := hm
    refine xr_cVq (n := 1) (As := [.int xp1]) (st := []) C (c_Jx4a65c_get_915e3 a16 xp1 h5 0 0 hm) e13 rfl wd_569 wd_134 wd_135 wd_45 wd_133 (by decide +kernel) rfl (by rw [hR.1, hR.2]; decide) (Nat.zero_add _).symm (Nat.zero_add _).symm rfl (Nat.le_of_ble_eq_true rfl) dX11_clear_19 (fun r14 h15 hn => ?_)
    clear hm
    have hm := hn
    clear hn
    obtain ⟨a18, rfl, hm⟩ := hm
    obtain ⟨⟨fs17, e17⟩, hm⟩ := hm
    refine xr_cast C e17 rfl wd_563 dX11_clear_22 ?_
    obtain ⟨⟨fs19, e19⟩, hm⟩ := hm
    obtain ⟨mc20, ms21, kc22, ks23, kk19, kl19, hm⟩ := hm
    refine xr_cVi (n := 0) (As := []) (st := []) C (c_X8_sendBatch a18 h15 mc20 ms21 hm) e19 rfl wd_621 wd_623 wd_624 wd_405 wd_622 (by decide +kernel) rfl (by rw [hR.1, hR.2]; decide) kk19 kl19 rfl (Nat.le_of_ble_eq_true rfl) dX11_clear_25 (fun x24 h25 hn => ?_)
    clear hm
    have hm := hn
    clear hn
    refine xr_goto (tgt := 32) C dX11_clear_28 (by decide) ?_
    exact xr_ireturn C hr hlk hm dX11_clear_32
set_option maxRecDepth 100000 in
set_option maxHeartbeats 4000000 in
theorem c_X11_count {l : Launch} {D : va_G} {E : Ev} (a0 : Nat) (xp1 : Int32) (h : Hp) (kc ks : Nat) {Q : Int32 → Hp → Prop} (hm : m_X11_count E a0 xp1 h kc ks Q) : XMet l yX11_count cX11_count 2 (some .int) 1 20 kc ks D E h [.ref a0, .int xp1] (fun A => va_Qi Q (XPost D A) A) := by
  refine xm_of (lv0 := [(0, .ref a0), (1, .int xp1)]) (by decide) (Nat.le_of_ble_eq_true rfl) rfl RX11 rfl (fun p e s m args below meth c A R hRm C hr hlk hnm => ?_)
  have hR : R.frames = 1 ∧ R.locals = 20 := by rw [hRm]; exact ⟨rfl, rfl⟩
  refine xr_iload_n C dX11_count_0 1 rfl ?_
  by_cases q_0 : xp1 = 0
  · replace hm := hm.1 q_0
    refine xr_tableIn (tgt := 40) C dX11_count_1 (by rw [q_0]; decide) (by rw [q_0]; decide) (by rw [q_0] <;> rfl) (by decide) ?_
    refine xr_aload_n (r := (some a0)) C dX11_count_40 0 rfl ?_
    obtain ⟨fs1, r2, e1, f1, hm⟩ := hm
    refine xr_get (ci := 12) C 0 e1 f1 rfl inX11 (by decide) wd_523 dX11_count_41 ?_
    obtain ⟨a4, rfl, hm⟩ := hm
    obtain ⟨fs3, r5, e3, f3, hm⟩ := hm
    refine xr_get (ci := 11) C 2 e3 f3 rfl inX10 (by decide) wd_536 dX11_count_44 ?_
    obtain ⟨a9, rfl, hm⟩ := hm
    obtain ⟨⟨fs6, e6⟩, hm⟩ := hm
    refine xr_cVi (n := 0) (As := []) (st := []) C (c_Jx4a65c_size_8abf5 a9 h 0 0 hm) e6 rfl wd_558 wd_113 wd_114 wd_45 wd_112 (by decide +kernel) rfl (by rw [hR.1, hR.2]; decide) (Nat.zero_add _).symm (Nat.zero_add _).symm rfl (Nat.le_of_ble_eq_true rfl) dX11_count_47 (fun x7 h8 hn => ?_)
    clear hm
    have hm := hn
    clear hn
    exact xr_ireturn C hr hlk hm dX11_count_50
  · replace hm := hm.2 q_0
    by_cases q_1 : xp1 = 1
    · replace hm := hm.1 q_1
      refine xr_tableIn (tgt := 51) C dX11_count_1 (by rw [q_1]; decide) (by rw [q_1]; decide) (by rw [q_1] <;> rfl) (by decide) ?_
      refine xr_aload_n (r := (some a0)) C dX11_count_51 0 rfl ?_
      obtain ⟨fs10, r11, e10, f10, hm⟩ := hm
      refine xr_get (ci := 12) C 0 e10 f10 rfl inX11 (by decide) wd_523 dX11_count_52 ?_
      obtain ⟨a13, rfl, hm⟩ := hm
      obtain ⟨fs12, r14, e12, f12, hm⟩ := hm
      refine xr_get (ci := 11) C 3 e12 f12 rfl inX10 (by decide) wd_559 dX11_count_55 ?_
      obtain ⟨a18, rfl, hm⟩ := hm
      obtain ⟨⟨fs15, e15⟩, hm⟩ := hm
      refine xr_cVi (n := 0) (As := []) (st := []) C (c_Jx4a65c_size_8abf5 a18 h 0 0 hm) e15 rfl wd_558 wd_113 wd_114 wd_45 wd_112 (by decide +kernel) rfl (by rw [hR.1, hR.2]; decide) (Nat.zero_add _).symm (Nat.zero_add _).symm rfl (Nat.le_of_ble_eq_true rfl) dX11_count_58 (fun x16 h17 hn => ?_)
      clear hm
      have hm := hn
      clear hn
      exact xr_ireturn C hr hlk hm dX11_count_61
    · replace hm := hm.2 q_1
      by_cases q_2 : xp1 = 2
      · replace hm := hm.1 q_2
        refine xr_tableIn (tgt := 62) C dX11_count_1 (by rw [q_2]; decide) (by rw [q_2]; decide) (by rw [q_2] <;> rfl) (by decide) ?_
        refine xr_aload_n (r := (some a0)) C dX11_count_62 0 rfl ?_
        obtain ⟨fs19, r20, e19, f19, hm⟩ := hm
        refine xr_get (ci := 12) C 0 e19 f19 rfl inX11 (by decide) wd_523 dX11_count_63 ?_
        obtain ⟨a22, rfl, hm⟩ := hm
        obtain ⟨fs21, r23, e21, f21, hm⟩ := hm
        refine xr_get (ci := 11) C 0 e21 f21 rfl inX10 (by decide) wd_572 dX11_count_66 ?_
        obtain ⟨a25, rfl, hm⟩ := hm
        obtain ⟨fs24, x26, e24, f24, hm⟩ := hm
        refine xr_get (ci := 10) C 1 e24 f24 rfl inX9 (by decide) wd_625 dX11_count_69 ?_
        exact xr_ireturn C hr hlk hm dX11_count_72
      · replace hm := hm.2 q_2
        by_cases q_3 : xp1 = 3
        · replace hm := hm.1 q_3
          refine xr_tableIn (tgt := 73) C dX11_count_1 (by rw [q_3]; decide) (by rw [q_3]; decide) (by rw [q_3] <;> rfl) (by decide) ?_
          refine xr_aload_n (r := (some a0)) C dX11_count_73 0 rfl ?_
          obtain ⟨fs27, r28, e27, f27, hm⟩ := hm
          refine xr_get (ci := 12) C 1 e27 f27 rfl inX11 (by decide) wd_524 dX11_count_74 ?_
          obtain ⟨a30, rfl, hm⟩ := hm
          obtain ⟨fs29, r31, e29, f29, hm⟩ := hm
          refine xr_get (ci := 4) C 2 e29 f29 rfl inX3 (by decide) wd_626 dX11_count_77 ?_
          obtain ⟨a35, rfl, hm⟩ := hm
          obtain ⟨⟨fs32, e32⟩, hm⟩ := hm
          refine xr_cVi (n := 0) (As := []) (st := []) C (c_Jx4a65c_size_8abf5 a35 h 0 0 hm) e32 rfl wd_558 wd_113 wd_114 wd_45 wd_112 (by decide +kernel) rfl (by rw [hR.1, hR.2]; decide) (Nat.zero_add _).symm (Nat.zero_add _).symm rfl (Nat.le_of_ble_eq_true rfl) dX11_count_80 (fun x33 h34 hn => ?_)
          clear hm
          have hm := hn
          clear hn
          exact xr_ireturn C hr hlk hm dX11_count_83
        · replace hm := hm.2 q_3
          by_cases q_4 : xp1 = 4
          · replace hm := hm.1 q_4
            refine xr_tableIn (tgt := 84) C dX11_count_1 (by rw [q_4]; decide) (by rw [q_4]; decide) (by rw [q_4] <;> rfl) (by decide) ?_
            refine xr_aload_n (r := (some a0)) C dX11_count_84 0 rfl ?_
            obtain ⟨fs36, r37, e36, f36, hm⟩ := hm
            refine xr_get (ci := 12) C 0 e36 f36 rfl inX11 (by decide) wd_523 dX11_count_85 ?_
            obtain ⟨a39, rfl, hm⟩ := hm
            obtain ⟨fs38, r40, e38, f38, hm⟩ := hm
            refine xr_get (ci := 11) C 1 e38 f38 rfl inX10 (by decide) wd_627 dX11_count_88 ?_
            obtain ⟨a42, rfl, hm⟩ := hm
            obtain ⟨fs41, r43, e41, f41, hm⟩ := hm
            refine xr_get (ci := 8) C 0 e41 f41 rfl inX7 (by decide) wd_628 dX11_count_91 ?_
            obtain ⟨a47, rfl, hm⟩ := hm
            obtain ⟨⟨fs44, e44⟩, hm⟩ := hm
            refine xr_cVi (n := 0) (As := []) (st := []) C (c_Jx4a65c_size_8abf5 a47 h 0 0 hm) e44 rfl wd_558 wd_113 wd_114 wd_45 wd_112 (by decide +kernel) rfl (by rw [hR.1, hR.2]; decide) (Nat.zero_add _).symm (Nat.zero_add _).symm rfl (Nat.le_of_ble_eq_true rfl) dX11_count_94 (fun x45 h46 hn => ?_)
            clear hm
            have hm := hn
            clear hn
            exact xr_ireturn C hr hlk hm dX11_count_97
          · replace hm := hm.2 q_4
            by_cases q_5 : xp1 = 5
            · replace hm := hm.1 q_5
              refine xr_tableIn (tgt := 98) C dX11_count_1 (by rw [q_5]; decide) (by rw [q_5]; decide) (by rw [q_5] <;> rfl) (by decide) ?_
              refine xr_aload_n (r := (some a0)) C dX11_count_98 0 rfl ?_
              obtain ⟨fs48, r49, e48, f48, hm⟩ := hm
              refine xr_get (ci := 12) C 0 e48 f48 rfl inX11 (by decide) wd_523 dX11_count_99 ?_
              obtain ⟨a51, rfl, hm⟩ := hm
              obtain ⟨fs50, r52, e50, f50, hm⟩ := hm
              refine xr_get (ci := 11) C 4 e50 f50 rfl inX10 (by decide) wd_629 dX11_count_102 ?_
              obtain ⟨a56, rfl, hm⟩ := hm
              obtain ⟨⟨fs53, e53⟩, hm⟩ := hm
              refine xr_cVi (n := 0) (As := []) (st := []) C (c_Jx4a65c_size_8abf5 a56 h 0 0 hm) e53 rfl wd_558 wd_113 wd_114 wd_45 wd_112 (by decide +kernel) rfl (by rw [hR.1, hR.2]; decide) (Nat.zero_add _).symm (Nat.zero_add _).symm rfl (Nat.le_of_ble_eq_true rfl) dX11_count_105 (fun x54 h55 hn => ?_)
              clear hm
              have hm := hn
              clear hn
              exact xr_ireturn C hr hlk hm dX11_count_108
            · replace hm := hm.2 q_5
              have z_0 := lv_neT (a := 0) q_0 rfl
              have z_1 := lv_neT (a := 1) q_1 rfl
              have z_2 := lv_neT (a := 2) q_2 rfl
              have z_3 := lv_neT (a := 3) q_3 rfl
              have z_4 := lv_neT (a := 4) q_4 rfl
              have z_5 := lv_neT (a := 5) q_5 rfl
              refine xr_tableOut (tgt := 109) C dX11_count_1 (by omega) (by decide) ?_
              refine xr_iconst (v := (-1)) C dX11_count_109 rfl ?_
              exact xr_ireturn C hr hlk hm dX11_count_110
set_option maxRecDepth 100000 in
set_option maxHeartbeats 4000000 in
theorem c_X11_outcome {l : Launch} {D : va_G} {E : Ev} (a0 : Nat) (xp1 : Int32) (h : Hp) (kc ks : Nat) {Q : Int32 → Hp → Prop} (hm : m_X11_outcome E a0 xp1 h kc ks Q) : XMet l yX11_outcome cX11_outcome 2 (some .int) 3 64 kc ks D E h [.ref a0, .int xp1] (fun A => va_Qi Q (XPost D A) A) := by
  refine xm_of (lv0 := [(0, .ref a0), (1, .int xp1)]) (by decide) (Nat.le_of_ble_eq_true rfl) rfl RX11 rfl (fun p e s m args below meth c A R hRm C hr hlk hnm => ?_)
  have hR : R.frames = 3 ∧ R.locals = 64 := by rw [hRm]; exact ⟨rfl, rfl⟩
  refine xr_aload_n (r := (some a0)) C dX11_outcome_0 0 rfl ?_
  obtain ⟨fs1, r2, e1, f1, hm⟩ := hm
  refine xr_get (ci := 12) C 0 e1 f1 rfl inX11 (by decide) wd_523 dX11_outcome_1 ?_
  refine xr_iload_n C dX11_outcome_4 1 rfl ?_
  obtain ⟨a6, rfl, hm⟩ := hm
  obtain ⟨⟨fs3, e3⟩, hm⟩ := hm
  refine xr_cVi (n := 1) (As := [.int xp1]) (st := []) C (c_X10_isTerminal a6 xp1 h 0 0 hm) e3 rfl wd_571 wd_319 wd_320 wd_178 wd_318 (by decide +kernel) rfl (by rw [hR.1, hR.2]; decide) (Nat.zero_add _).symm (Nat.zero_add _).symm rfl (Nat.le_of_ble_eq_true rfl) dX11_outcome_5 (fun x4 h5 hn => ?_)
  clear hm
  have hm := hn
  clear hn
  refine xr_if_eq (tgt := 31) C dX11_outcome_8 (by decide) (fun q7 => ?_) (fun q7 => ?_)
  · replace hm := hm.1 q7
    refine xr_iconst (v := (-1)) C dX11_outcome_31 rfl ?_
    exact xr_ireturn C hr hlk hm dX11_outcome_32
  · replace hm := hm.2 q7
    refine xr_aload_n (r := (some a0)) C dX11_outcome_11 0 rfl ?_
    obtain ⟨fs8, r9, e8, f8, hm⟩ := hm
    refine xr_get (ci := 12) C 0 e8 f8 rfl inX11 (by decide) wd_523 dX11_outcome_12 ?_
    obtain ⟨a11, rfl, hm⟩ := hm
    obtain ⟨fs10, r12, e10, f10, hm⟩ := hm
    refine xr_get (ci := 11) C 3 e10 f10 rfl inX10 (by decide) wd_559 dX11_outcome_15 ?_
    refine xr_iload_n C dX11_outcome_18 1 rfl ?_
    obtain ⟨a16, rfl, hm⟩ := hm
    obtain ⟨⟨fs13, e13⟩, hm⟩ := hm
    refine xr_cVq (n := 1) (As := [.int xp1]) (st := []) C (c_Jx4a65c_get_915e3 a16 xp1 h5 0 0 hm) e13 rfl wd_569 wd_134 wd_135 wd_45 wd_133 (by decide +kernel) rfl (by rw [hR.1, hR.2]; decide) (Nat.zero_add _).symm (Nat.zero_add _).symm rfl (Nat.le_of_ble_eq_true rfl) dX11_outcome_19 (fun r14 h15 hn => ?_)
    clear hm
    have hm := hn
    clear hn
    obtain ⟨a18, rfl, hm⟩ := hm
    obtain ⟨⟨fs17, e17⟩, hm⟩ := hm
    refine xr_cast C e17 rfl wd_563 dX11_outcome_22 ?_
    obtain ⟨fs19, x20, e19, f19, hm⟩ := hm
    refine xr_get (ci := 9) C 5 e19 f19 rfl inX8 (by decide) wd_630 dX11_outcome_25 ?_
    refine xr_goto (tgt := 32) C dX11_outcome_28 (by decide) ?_
    exact xr_ireturn C hr hlk hm dX11_outcome_32
set_option maxRecDepth 100000 in
set_option maxHeartbeats 4000000 in
theorem c_X11_told {l : Launch} {D : va_G} {E : Ev} (a0 : Nat) (xp1 : Int32) (xp2 : Int32) (h : Hp) (kc ks : Nat) {Q : Int32 → Hp → Prop} (hm : m_X11_told E a0 xp1 xp2 h kc ks Q) : XMet l yX11_told cX11_told 4 (some .int) 3 64 kc ks D E h [.ref a0, .int xp1, .int xp2] (fun A => va_Qi Q (XPost D A) A) := by
  refine xm_of (lv0 := [(0, .ref a0), (1, .int xp1), (2, .int xp2)]) (by decide) (Nat.le_of_ble_eq_true rfl) rfl RX11 rfl (fun p e s m args below meth c A R hRm C hr hlk hnm => ?_)
  have hR : R.frames = 3 ∧ R.locals = 64 := by rw [hRm]; exact ⟨rfl, rfl⟩
  refine xr_aload_n (r := (some a0)) C dX11_told_0 0 rfl ?_
  obtain ⟨fs1, r2, e1, f1, hm⟩ := hm
  refine xr_get (ci := 12) C 0 e1 f1 rfl inX11 (by decide) wd_523 dX11_told_1 ?_
  refine xr_iload_n C dX11_told_4 1 rfl ?_
  obtain ⟨a6, rfl, hm⟩ := hm
  obtain ⟨⟨fs3, e3⟩, hm⟩ := hm
  refine xr_cVi (n := 1) (As := [.int xp1]) (st := []) C (c_X10_isCard a6 xp1 h 0 0 hm) e3 rfl wd_570 wd_436 wd_437 wd_178 wd_435 (by decide +kernel) rfl (by rw [hR.1, hR.2]; decide) (Nat.zero_add _).symm (Nat.zero_add _).symm rfl (Nat.le_of_ble_eq_true rfl) dX11_told_5 (fun x4 h5 hn => ?_)
  clear hm
  have hm := hn
  clear hn
  refine xr_if_ne (tgt := 13) C dX11_told_8 (by decide) (fun q7 => ?_) (fun q7 => ?_)
  · replace hm := hm.2 q7
    refine xr_aload_n (r := (some a0)) C dX11_told_13 0 rfl ?_
    obtain ⟨fs8, r9, e8, f8, hm⟩ := hm
    refine xr_get (ci := 12) C 0 e8 f8 rfl inX11 (by decide) wd_523 dX11_told_14 ?_
    obtain ⟨a11, rfl, hm⟩ := hm
    obtain ⟨fs10, r12, e10, f10, hm⟩ := hm
    refine xr_get (ci := 11) C 2 e10 f10 rfl inX10 (by decide) wd_536 dX11_told_17 ?_
    refine xr_iload_n C dX11_told_20 1 rfl ?_
    obtain ⟨a16, rfl, hm⟩ := hm
    obtain ⟨⟨fs13, e13⟩, hm⟩ := hm
    refine xr_cVq (n := 1) (As := [.int xp1]) (st := []) C (c_Jx4a65c_get_915e3 a16 xp1 h5 0 0 hm) e13 rfl wd_569 wd_134 wd_135 wd_45 wd_133 (by decide +kernel) rfl (by rw [hR.1, hR.2]; decide) (Nat.zero_add _).symm (Nat.zero_add _).symm rfl (Nat.le_of_ble_eq_true rfl) dX11_told_21 (fun r14 h15 hn => ?_)
    clear hm
    have hm := hn
    clear hn
    obtain ⟨a18, rfl, hm⟩ := hm
    obtain ⟨⟨fs17, e17⟩, hm⟩ := hm
    refine xr_cast C e17 rfl wd_552 dX11_told_24 ?_
    refine xr_astore_n (r := (some a18)) (lv' := [(3, .ref a18), (0, .ref a0), (1, .int xp1), (2, .int xp2)]) C dX11_told_27 (by decide) rfl ?_
    refine xr_iload_n C dX11_told_28 3 rfl ?_
    by_cases q_0 : xp2 = 0
    · replace hm := hm.1 q_0
      refine xr_tableIn (tgt := 60) C dX11_told_29 (by rw [q_0]; decide) (by rw [q_0]; decide) (by rw [q_0] <;> rfl) (by decide) ?_
      refine xr_aload_n (r := (some a18)) C dX11_told_60 0 rfl ?_
      obtain ⟨fs19, x20, e19, f19, hm⟩ := hm
      refine xr_get (ci := 2) C 5 e19 f19 rfl inX1 (by decide) wd_631 dX11_told_61 ?_
      exact xr_ireturn C hr hlk hm dX11_told_64
    · replace hm := hm.2 q_0
      by_cases q_1 : xp2 = 1
      · replace hm := hm.1 q_1
        refine xr_tableIn (tgt := 65) C dX11_told_29 (by rw [q_1]; decide) (by rw [q_1]; decide) (by rw [q_1] <;> rfl) (by decide) ?_
        refine xr_aload_n (r := (some a18)) C dX11_told_65 0 rfl ?_
        obtain ⟨fs21, x22, e21, f21, hm⟩ := hm
        refine xr_get (ci := 2) C 6 e21 f21 rfl inX1 (by decide) wd_632 dX11_told_66 ?_
        exact xr_ireturn C hr hlk hm dX11_told_69
      · replace hm := hm.2 q_1
        by_cases q_2 : xp2 = 2
        · replace hm := hm.1 q_2
          refine xr_tableIn (tgt := 70) C dX11_told_29 (by rw [q_2]; decide) (by rw [q_2]; decide) (by rw [q_2] <;> rfl) (by decide) ?_
          refine xr_aload_n (r := (some a18)) C dX11_told_70 0 rfl ?_
          obtain ⟨fs23, x24, e23, f23, hm⟩ := hm
          refine xr_get (ci := 2) C 7 e23 f23 rfl inX1 (by decide) wd_633 dX11_told_71 ?_
          exact xr_ireturn C hr hlk hm dX11_told_74
        · replace hm := hm.2 q_2
          by_cases q_3 : xp2 = 3
          · replace hm := hm.1 q_3
            refine xr_tableIn (tgt := 75) C dX11_told_29 (by rw [q_3]; decide) (by rw [q_3]; decide) (by rw [q_3] <;> rfl) (by decide) ?_
            refine xr_aload_n (r := (some a18)) C dX11_told_75 0 rfl ?_
            obtain ⟨fs25, x26, e25, f25, hm⟩ := hm
            refine xr_get (ci := 2) C 8 e25 f25 rfl inX1 (by decide) wd_634 dX11_told_76 ?_
            exact xr_ireturn C hr hlk hm dX11_told_79
          · replace hm := hm.2 q_3
            have z_0 := lv_neT (a := 0) q_0 rfl
            have z_1 := lv_neT (a := 1) q_1 rfl
            have z_2 := lv_neT (a := 2) q_2 rfl
            have z_3 := lv_neT (a := 3) q_3 rfl
            refine xr_tableOut (tgt := 80) C dX11_told_29 (by omega) (by decide) ?_
            refine xr_iconst (v := (-1)) C dX11_told_80 rfl ?_
            exact xr_ireturn C hr hlk hm dX11_told_81
  · replace hm := hm.1 q7
    refine xr_iconst (v := (-1)) C dX11_told_11 rfl ?_
    exact xr_ireturn C hr hlk hm dX11_told_12
set_option maxRecDepth 100000 in
set_option maxHeartbeats 4000000 in
theorem k_X11_account_L38 {p : Program} {l : Launch} {e : Env} {R : Room} {s : State} {m : MethodId} {args : Array Value} {below : List Frame} {meth : Method} {c : Code} {D : va_G} {E : Ev} {A : Nat → Prop} {KC KS : Nat} (C : XC p R s m args c D E A 2 RX11 cX11_account KC KS) (hr : meth.sig.returnType = (some .long)) (hlk : meth.locks = false) (hnm : meth.name = "account") (hR : R.frames = 3 ∧ R.locals = 64) {Q : Int64 → Hp → Prop} : ∀  (h : Hp) (kc ks : Nat), m_X11_account_L38 E  h kc ks Q → XW p l e R s m args below meth c (MQ below (va_Ql Q (XPost D A) A) args s KC KS A) D A KC KS 2 h kc ks [] 38 [] := by
  intro  h kc ks hm
  refine xr_lconst (v := 0) C dX11_account_38 rfl ?_
  exact xr_lreturn C hr hlk hm dX11_account_39
set_option maxRecDepth 100000 in
set_option maxHeartbeats 4000000 in
theorem c_X11_account {l : Launch} {D : va_G} {E : Ev} (a0 : Nat) (xp1 : Int32) (h : Hp) (kc ks : Nat) {Q : Int64 → Hp → Prop} (hm : m_X11_account E a0 xp1 h kc ks Q) : XMet l yX11_account cX11_account 2 (some .long) 3 64 kc ks D E h [.ref a0, .int xp1] (fun A => va_Ql Q (XPost D A) A) := by
  refine xm_of (lv0 := [(0, .ref a0), (1, .int xp1)]) (by decide) (Nat.le_of_ble_eq_true rfl) rfl RX11 rfl (fun p e s m args below meth c A R hRm C hr hlk hnm => ?_)
  have hR : R.frames = 3 ∧ R.locals = 64 := by rw [hRm]; exact ⟨rfl, rfl⟩
  refine xr_iload_n C dX11_account_0 1 rfl ?_
  refine xr_if_lt (tgt := 38) C dX11_account_1 (by decide) (fun q1 => ?_) (fun q1 => ?_)
  · replace hm := hm.1 q1
    refine xr_sub [] rfl ?_
    exact k_X11_account_L38 C hr hlk hnm hR _ _ _ hm
  · replace hm := hm.2 q1
    refine xr_iload_n C dX11_account_4 1 rfl ?_
    refine xr_aload_n (r := (some a0)) C dX11_account_5 0 rfl ?_
    obtain ⟨fs2, r3, e2, f2, hm⟩ := hm
    refine xr_get (ci := 12) C 1 e2 f2 rfl inX11 (by decide) wd_524 dX11_account_6 ?_
    obtain ⟨a5, rfl, hm⟩ := hm
    obtain ⟨fs4, r6, e4, f4, hm⟩ := hm
    refine xr_get (ci := 4) C 1 e4 f4 rfl inX3 (by decide) wd_541 dX11_account_9 ?_
    obtain ⟨a10, rfl, hm⟩ := hm
    obtain ⟨⟨fs7, e7⟩, hm⟩ := hm
    refine xr_cVi (n := 0) (As := []) (st := [.int xp1]) C (c_Jx4a65c_size_8abf5 a10 h 0 0 hm) e7 rfl wd_558 wd_113 wd_114 wd_45 wd_112 (by decide +kernel) rfl (by rw [hR.1, hR.2]; decide) (Nat.zero_add _).symm (Nat.zero_add _).symm rfl (Nat.le_of_ble_eq_true rfl) dX11_account_12 (fun x8 h9 hn => ?_)
    clear hm
    have hm := hn
    clear hn
    refine xr_icmp_ge (tgt := 38) C dX11_account_15 (by decide) (fun q11 => ?_) (fun q11 => ?_)
    · replace hm := hm.1 q11
      refine xr_sub [] rfl ?_
      exact k_X11_account_L38 C hr hlk hnm hR _ _ _ hm
    · replace hm := hm.2 q11
      refine xr_aload_n (r := (some a0)) C dX11_account_18 0 rfl ?_
      obtain ⟨fs12, r13, e12, f12, hm⟩ := hm
      refine xr_get (ci := 12) C 1 e12 f12 rfl inX11 (by decide) wd_524 dX11_account_19 ?_
      obtain ⟨a15, rfl, hm⟩ := hm
      obtain ⟨fs14, r16, e14, f14, hm⟩ := hm
      refine xr_get (ci := 4) C 1 e14 f14 rfl inX3 (by decide) wd_541 dX11_account_22 ?_
      refine xr_iload_n C dX11_account_25 1 rfl ?_
      obtain ⟨a20, rfl, hm⟩ := hm
      obtain ⟨⟨fs17, e17⟩, hm⟩ := hm
      refine xr_cVq (n := 1) (As := [.int xp1]) (st := []) C (c_Jx4a65c_get_915e3 a20 xp1 h9 0 0 hm) e17 rfl wd_569 wd_134 wd_135 wd_45 wd_133 (by decide +kernel) rfl (by rw [hR.1, hR.2]; decide) (Nat.zero_add _).symm (Nat.zero_add _).symm rfl (Nat.le_of_ble_eq_true rfl) dX11_account_26 (fun r18 h19 hn => ?_)
      clear hm
      have hm := hn
      clear hn
      obtain ⟨a22, rfl, hm⟩ := hm
      obtain ⟨⟨fs21, e21⟩, hm⟩ := hm
      refine xr_cast C e21 rfl wd_547 dX11_account_29 ?_
      obtain ⟨fs23, y24, e23, f23, hm⟩ := hm
      refine xr_get (ci := 1) C 0 e23 f23 rfl inX0 (by decide) wd_635 dX11_account_32 ?_
      refine xr_goto (tgt := 39) C dX11_account_35 (by decide) ?_
      exact xr_lreturn C hr hlk hm dX11_account_39
set_option maxRecDepth 100000 in
set_option maxHeartbeats 4000000 in
theorem k_X11_debit_L18 {p : Program} {l : Launch} {e : Env} {R : Room} {s : State} {m : MethodId} {args : Array Value} {below : List Frame} {meth : Method} {c : Code} {D : va_G} {E : Ev} {A : Nat → Prop} {KC KS : Nat} (C : XC p R s m args c D E A 4 RX11 cX11_debit KC KS) (hr : meth.sig.returnType = (some .long)) (hlk : meth.locks = false) (hnm : meth.name = "debit") (hR : R.frames = 3 ∧ R.locals = 64) {Q : Int64 → Hp → Prop} : ∀  (h : Hp) (kc ks : Nat), m_X11_debit_L18 E  h kc ks Q → XW p l e R s m args below meth c (MQ below (va_Ql Q (XPost D A) A) args s KC KS A) D A KC KS 4 h kc ks [] 18 [] := by
  intro  h kc ks hm
  refine xr_ldc2 (v := (-1)) C dX11_debit_18 wd_643 ?_
  exact xr_lreturn C hr hlk hm dX11_debit_21
set_option maxRecDepth 100000 in
set_option maxHeartbeats 4000000 in
theorem c_X11_debit {l : Launch} {D : va_G} {E : Ev} (a0 : Nat) (xp1 : Int32) (xp2 : Int32) (h : Hp) (kc ks : Nat) {Q : Int64 → Hp → Prop} (hm : m_X11_debit E a0 xp1 xp2 h kc ks Q) : XMet l yX11_debit cX11_debit 4 (some .long) 3 64 kc ks D E h [.ref a0, .int xp1, .int xp2] (fun A => va_Ql Q (XPost D A) A) := by
  refine xm_of (lv0 := [(0, .ref a0), (1, .int xp1), (2, .int xp2)]) (by decide) (Nat.le_of_ble_eq_true rfl) rfl RX11 rfl (fun p e s m args below meth c A R hRm C hr hlk hnm => ?_)
  have hR : R.frames = 3 ∧ R.locals = 64 := by rw [hRm]; exact ⟨rfl, rfl⟩
  refine xr_iload_n C dX11_debit_0 1 rfl ?_
  refine xr_if_lt (tgt := 18) C dX11_debit_1 (by decide) (fun q1 => ?_) (fun q1 => ?_)
  · replace hm := hm.1 q1
    refine xr_sub [] rfl ?_
    exact k_X11_debit_L18 C hr hlk hnm hR _ _ _ hm
  · replace hm := hm.2 q1
    refine xr_iload_n C dX11_debit_4 1 rfl ?_
    refine xr_aload_n (r := (some a0)) C dX11_debit_5 0 rfl ?_
    obtain ⟨fs2, r3, e2, f2, hm⟩ := hm
    refine xr_get (ci := 12) C 1 e2 f2 rfl inX11 (by decide) wd_524 dX11_debit_6 ?_
    obtain ⟨a5, rfl, hm⟩ := hm
    obtain ⟨fs4, r6, e4, f4, hm⟩ := hm
    refine xr_get (ci := 4) C 2 e4 f4 rfl inX3 (by decide) wd_626 dX11_debit_9 ?_
    obtain ⟨a10, rfl, hm⟩ := hm
    obtain ⟨⟨fs7, e7⟩, hm⟩ := hm
    refine xr_cVi (n := 0) (As := []) (st := [.int xp1]) C (c_Jx4a65c_size_8abf5 a10 h 0 0 hm) e7 rfl wd_558 wd_113 wd_114 wd_45 wd_112 (by decide +kernel) rfl (by rw [hR.1, hR.2]; decide) (Nat.zero_add _).symm (Nat.zero_add _).symm rfl (Nat.le_of_ble_eq_true rfl) dX11_debit_12 (fun x8 h9 hn => ?_)
    clear hm
    have hm := hn
    clear hn
    refine xr_icmp_lt (tgt := 22) C dX11_debit_15 (by decide) (fun q11 => ?_) (fun q11 => ?_)
    · replace hm := hm.1 q11
      refine xr_aload_n (r := (some a0)) C dX11_debit_22 0 rfl ?_
      obtain ⟨fs12, r13, e12, f12, hm⟩ := hm
      refine xr_get (ci := 12) C 1 e12 f12 rfl inX11 (by decide) wd_524 dX11_debit_23 ?_
      obtain ⟨a15, rfl, hm⟩ := hm
      obtain ⟨fs14, r16, e14, f14, hm⟩ := hm
      refine xr_get (ci := 4) C 2 e14 f14 rfl inX3 (by decide) wd_626 dX11_debit_26 ?_
      refine xr_iload_n C dX11_debit_29 1 rfl ?_
      obtain ⟨a20, rfl, hm⟩ := hm
      obtain ⟨⟨fs17, e17⟩, hm⟩ := hm
      refine xr_cVq (n := 1) (As := [.int xp1]) (st := []) C (c_Jx4a65c_get_915e3 a20 xp1 h9 0 0 hm) e17 rfl wd_569 wd_134 wd_135 wd_45 wd_133 (by decide +kernel) rfl (by rw [hR.1, hR.2]; decide) (Nat.zero_add _).symm (Nat.zero_add _).symm rfl (Nat.le_of_ble_eq_true rfl) dX11_debit_30 (fun r18 h19 hn => ?_)
      clear hm
      have hm := hn
      clear hn
      obtain ⟨a22, rfl, hm⟩ := hm
      obtain ⟨⟨fs21, e21⟩, hm⟩ := hm
      refine xr_cast C e21 rfl wd_644 dX11_debit_33 ?_
      refine xr_astore_n (r := (some a22)) (lv' := [(3, .ref a22), (0, .ref a0), (1, .int xp1), (2, .int xp2)]) C dX11_debit_36 (by decide) rfl ?_
      refine xr_iload_n C dX11_debit_37 3 rfl ?_
      by_cases q_0 : xp2 = 0
      · replace hm := hm.1 q_0
        refine xr_tableIn (tgt := 80) C dX11_debit_38 (by rw [q_0]; decide) (by rw [q_0]; decide) (by rw [q_0] <;> rfl) (by decide) ?_
        refine xr_aload_n (r := (some a22)) C dX11_debit_80 0 rfl ?_
        obtain ⟨fs23, x24, e23, f23, hm⟩ := hm
        refine xr_get (ci := 6) C 0 e23 f23 rfl inX5 (by decide) wd_636 dX11_debit_81 ?_
        refine xr_i2l (v := x24.toInt64) C dX11_debit_84 rfl ?_
        exact xr_lreturn C hr hlk hm dX11_debit_85
      · replace hm := hm.2 q_0
        by_cases q_1 : xp2 = 1
        · replace hm := hm.1 q_1
          refine xr_tableIn (tgt := 86) C dX11_debit_38 (by rw [q_1]; decide) (by rw [q_1]; decide) (by rw [q_1] <;> rfl) (by decide) ?_
          refine xr_aload_n (r := (some a22)) C dX11_debit_86 0 rfl ?_
          obtain ⟨fs25, x26, e25, f25, hm⟩ := hm
          refine xr_get (ci := 6) C 1 e25 f25 rfl inX5 (by decide) wd_637 dX11_debit_87 ?_
          refine xr_i2l (v := x26.toInt64) C dX11_debit_90 rfl ?_
          exact xr_lreturn C hr hlk hm dX11_debit_91
        · replace hm := hm.2 q_1
          by_cases q_2 : xp2 = 2
          · replace hm := hm.1 q_2
            refine xr_tableIn (tgt := 92) C dX11_debit_38 (by rw [q_2]; decide) (by rw [q_2]; decide) (by rw [q_2] <;> rfl) (by decide) ?_
            refine xr_aload_n (r := (some a22)) C dX11_debit_92 0 rfl ?_
            obtain ⟨fs27, y28, e27, f27, hm⟩ := hm
            refine xr_get (ci := 6) C 2 e27 f27 rfl inX5 (by decide) wd_638 dX11_debit_93 ?_
            exact xr_lreturn C hr hlk hm dX11_debit_96
          · replace hm := hm.2 q_2
            by_cases q_3 : xp2 = 3
            · replace hm := hm.1 q_3
              refine xr_tableIn (tgt := 97) C dX11_debit_38 (by rw [q_3]; decide) (by rw [q_3]; decide) (by rw [q_3] <;> rfl) (by decide) ?_
              refine xr_aload_n (r := (some a22)) C dX11_debit_97 0 rfl ?_
              obtain ⟨fs29, y30, e29, f29, hm⟩ := hm
              refine xr_get (ci := 6) C 3 e29 f29 rfl inX5 (by decide) wd_639 dX11_debit_98 ?_
              exact xr_lreturn C hr hlk hm dX11_debit_101
            · replace hm := hm.2 q_3
              by_cases q_4 : xp2 = 4
              · replace hm := hm.1 q_4
                refine xr_tableIn (tgt := 102) C dX11_debit_38 (by rw [q_4]; decide) (by rw [q_4]; decide) (by rw [q_4] <;> rfl) (by decide) ?_
                refine xr_aload_n (r := (some a22)) C dX11_debit_102 0 rfl ?_
                obtain ⟨fs31, x32, e31, f31, hm⟩ := hm
                refine xr_get (ci := 6) C 4 e31 f31 rfl inX5 (by decide) wd_640 dX11_debit_103 ?_
                refine xr_i2l (v := x32.toInt64) C dX11_debit_106 rfl ?_
                exact xr_lreturn C hr hlk hm dX11_debit_107
              · replace hm := hm.2 q_4
                by_cases q_5 : xp2 = 5
                · replace hm := hm.1 q_5
                  refine xr_tableIn (tgt := 108) C dX11_debit_38 (by rw [q_5]; decide) (by rw [q_5]; decide) (by rw [q_5] <;> rfl) (by decide) ?_
                  refine xr_aload_n (r := (some a22)) C dX11_debit_108 0 rfl ?_
                  obtain ⟨fs33, x34, e33, f33, hm⟩ := hm
                  refine xr_get (ci := 6) C 5 e33 f33 rfl inX5 (by decide) wd_641 dX11_debit_109 ?_
                  refine xr_i2l (v := x34.toInt64) C dX11_debit_112 rfl ?_
                  exact xr_lreturn C hr hlk hm dX11_debit_113
                · replace hm := hm.2 q_5
                  by_cases q_6 : xp2 = 6
                  · replace hm := hm.1 q_6
                    refine xr_tableIn (tgt := 114) C dX11_debit_38 (by rw [q_6]; decide) (by rw [q_6]; decide) (by rw [q_6] <;> rfl) (by decide) ?_
                    refine xr_aload_n (r := (some a22)) C dX11_debit_114 0 rfl ?_
                    obtain ⟨fs35, x36, e35, f35, hm⟩ := hm
                    refine xr_get (ci := 6) C 6 e35 f35 rfl inX5 (by decide) wd_642 dX11_debit_115 ?_
                    refine xr_i2l (v := x36.toInt64) C dX11_debit_118 rfl ?_
                    exact xr_lreturn C hr hlk hm dX11_debit_119
                  · replace hm := hm.2 q_6
                    have z_0 := lv_neT (a := 0) q_0 rfl
                    have z_1 := lv_neT (a := 1) q_1 rfl
                    have z_2 := lv_neT (a := 2) q_2 rfl
                    have z_3 := lv_neT (a := 3) q_3 rfl
                    have z_4 := lv_neT (a := 4) q_4 rfl
                    have z_5 := lv_neT (a := 5) q_5 rfl
                    have z_6 := lv_neT (a := 6) q_6 rfl
                    refine xr_tableOut (tgt := 120) C dX11_debit_38 (by omega) (by decide) ?_
                    refine xr_ldc2 (v := (-1)) C dX11_debit_120 wd_643 ?_
                    exact xr_lreturn C hr hlk hm dX11_debit_123
    · replace hm := hm.2 q11
      refine xr_sub [] rfl ?_
      exact k_X11_debit_L18 C hr hlk hnm hR _ _ _ hm
set_option maxRecDepth 100000 in
set_option maxHeartbeats 4000000 in
theorem c_X11_message {l : Launch} {D : va_G} {E : Ev} (a0 : Nat) (xp1 : Int32) (xp2 : Int32) (h : Hp) (kc ks : Nat) {Q : Int32 → Hp → Prop} (hm : m_X11_message E a0 xp1 xp2 h kc ks Q) : XMet l yX11_message cX11_message 4 (some .int) 1 21 kc ks D E h [.ref a0, .int xp1, .int xp2] (fun A => va_Qi Q (XPost D A) A) := by
  refine xm_of (lv0 := [(0, .ref a0), (1, .int xp1), (2, .int xp2)]) (by decide) (Nat.le_of_ble_eq_true rfl) rfl RX11 rfl (fun p e s m args below meth c A R hRm C hr hlk hnm => ?_)
  have hR : R.frames = 1 ∧ R.locals = 21 := by rw [hRm]; exact ⟨rfl, rfl⟩
  refine xr_aload_n (r := (some a0)) C dX11_message_0 0 rfl ?_
  obtain ⟨fs1, r2, e1, f1, hm⟩ := hm
  refine xr_get (ci := 12) C 0 e1 f1 rfl inX11 (by decide) wd_523 dX11_message_1 ?_
  obtain ⟨a4, rfl, hm⟩ := hm
  obtain ⟨fs3, r5, e3, f3, hm⟩ := hm
  refine xr_get (ci := 11) C 0 e3 f3 rfl inX10 (by decide) wd_572 dX11_message_4 ?_
  refine xr_iload_n C dX11_message_7 1 rfl ?_
  obtain ⟨a9, rfl, hm⟩ := hm
  obtain ⟨⟨fs6, e6⟩, hm⟩ := hm
  refine xr_cVq (n := 1) (As := [.int xp1]) (st := []) C (c_X9_get a9 xp1 h 0 0 hm) e6 rfl wd_602 wd_490 wd_491 wd_171 wd_489 (by decide +kernel) rfl (by rw [hR.1, hR.2]; decide) (Nat.zero_add _).symm (Nat.zero_add _).symm rfl (Nat.le_of_ble_eq_true rfl) dX11_message_8 (fun r7 h8 hn => ?_)
  clear hm
  have hm := hn
  clear hn
  refine xr_astore_n (r := r7) (lv' := [(3, va_rf r7), (0, .ref a0), (1, .int xp1), (2, .int xp2)]) C dX11_message_11 (by decide) rfl ?_
  refine xr_aload_n (r := r7) C dX11_message_12 0 rfl ?_
  refine xr_ifnonnull (tgt := 18) C dX11_message_13 (by decide) (fun a11 q10 => ?_) (fun q10 => ?_)
  · replace hm := hm.2 a11 q10
    subst q10
    refine xr_iload_n C dX11_message_18 3 rfl ?_
    by_cases q_0 : xp2 = 0
    · replace hm := hm.1 q_0
      refine xr_tableIn (tgt := 52) C dX11_message_19 (by rw [q_0]; decide) (by rw [q_0]; decide) (by rw [q_0] <;> rfl) (by decide) ?_
      refine xr_aload_n (r := (some a11)) C dX11_message_52 0 rfl ?_
      obtain ⟨fs12, x13, e12, f12, hm⟩ := hm
      refine xr_get (ci := 5) C 0 e12 f12 rfl inX4 (by decide) wd_603 dX11_message_53 ?_
      exact xr_ireturn C hr hlk hm dX11_message_56
    · replace hm := hm.2 q_0
      by_cases q_1 : xp2 = 1
      · replace hm := hm.1 q_1
        refine xr_tableIn (tgt := 57) C dX11_message_19 (by rw [q_1]; decide) (by rw [q_1]; decide) (by rw [q_1] <;> rfl) (by decide) ?_
        refine xr_aload_n (r := (some a11)) C dX11_message_57 0 rfl ?_
        obtain ⟨fs14, x15, e14, f14, hm⟩ := hm
        refine xr_get (ci := 5) C 1 e14 f14 rfl inX4 (by decide) wd_604 dX11_message_58 ?_
        exact xr_ireturn C hr hlk hm dX11_message_61
      · replace hm := hm.2 q_1
        by_cases q_2 : xp2 = 2
        · replace hm := hm.1 q_2
          refine xr_tableIn (tgt := 62) C dX11_message_19 (by rw [q_2]; decide) (by rw [q_2]; decide) (by rw [q_2] <;> rfl) (by decide) ?_
          refine xr_aload_n (r := (some a11)) C dX11_message_62 0 rfl ?_
          obtain ⟨fs16, x17, e16, f16, hm⟩ := hm
          refine xr_get (ci := 5) C 2 e16 f16 rfl inX4 (by decide) wd_574 dX11_message_63 ?_
          exact xr_ireturn C hr hlk hm dX11_message_66
        · replace hm := hm.2 q_2
          by_cases q_3 : xp2 = 3
          · replace hm := hm.1 q_3
            refine xr_tableIn (tgt := 67) C dX11_message_19 (by rw [q_3]; decide) (by rw [q_3]; decide) (by rw [q_3] <;> rfl) (by decide) ?_
            refine xr_aload_n (r := (some a11)) C dX11_message_67 0 rfl ?_
            obtain ⟨fs18, x19, e18, f18, hm⟩ := hm
            refine xr_get (ci := 5) C 3 e18 f18 rfl inX4 (by decide) wd_575 dX11_message_68 ?_
            exact xr_ireturn C hr hlk hm dX11_message_71
          · replace hm := hm.2 q_3
            by_cases q_4 : xp2 = 4
            · replace hm := hm.1 q_4
              refine xr_tableIn (tgt := 72) C dX11_message_19 (by rw [q_4]; decide) (by rw [q_4]; decide) (by rw [q_4] <;> rfl) (by decide) ?_
              refine xr_aload_n (r := (some a11)) C dX11_message_72 0 rfl ?_
              obtain ⟨fs20, x21, e20, f20, hm⟩ := hm
              refine xr_get (ci := 5) C 4 e20 f20 rfl inX4 (by decide) wd_605 dX11_message_73 ?_
              exact xr_ireturn C hr hlk hm dX11_message_76
            · replace hm := hm.2 q_4
              have z_0 := lv_neT (a := 0) q_0 rfl
              have z_1 := lv_neT (a := 1) q_1 rfl
              have z_2 := lv_neT (a := 2) q_2 rfl
              have z_3 := lv_neT (a := 3) q_3 rfl
              have z_4 := lv_neT (a := 4) q_4 rfl
              refine xr_tableOut (tgt := 77) C dX11_message_19 (by omega) (by decide) ?_
              refine xr_iconst (v := (-1)) C dX11_message_77 rfl ?_
              exact xr_ireturn C hr hlk hm dX11_message_78
  · replace hm := hm.1 q10
    subst q10
    refine xr_iconst (v := (-1)) C dX11_message_16 rfl ?_
    exact xr_ireturn C hr hlk hm dX11_message_17
set_option maxRecDepth 100000 in
set_option maxHeartbeats 4000000 in
theorem c_X11_at {l : Launch} {D : va_G} {E : Ev} (a0 : Nat) (xp1 : Int32) (xp2 : Int32) (h : Hp) (kc ks : Nat) {Q : Int32 → Hp → Prop} (hm : m_X11_at E a0 xp1 xp2 h kc ks Q) : XMet l yX11_at cX11_at 4 (some .int) 1 21 kc ks D E h [.ref a0, .int xp1, .int xp2] (fun A => va_Qi Q (XPost D A) A) := by
  refine xm_of (lv0 := [(0, .ref a0), (1, .int xp1), (2, .int xp2)]) (by decide) (Nat.le_of_ble_eq_true rfl) rfl RX11 rfl (fun p e s m args below meth c A R hRm C hr hlk hnm => ?_)
  have hR : R.frames = 1 ∧ R.locals = 21 := by rw [hRm]; exact ⟨rfl, rfl⟩
  refine xr_aload_n (r := (some a0)) C dX11_at_0 0 rfl ?_
  obtain ⟨fs1, r2, e1, f1, hm⟩ := hm
  refine xr_get (ci := 12) C 0 e1 f1 rfl inX11 (by decide) wd_523 dX11_at_1 ?_
  obtain ⟨a4, rfl, hm⟩ := hm
  obtain ⟨fs3, r5, e3, f3, hm⟩ := hm
  refine xr_get (ci := 11) C 0 e3 f3 rfl inX10 (by decide) wd_572 dX11_at_4 ?_
  refine xr_iload_n C dX11_at_7 1 rfl ?_
  obtain ⟨a9, rfl, hm⟩ := hm
  obtain ⟨⟨fs6, e6⟩, hm⟩ := hm
  refine xr_cVq (n := 1) (As := [.int xp1]) (st := []) C (c_X9_get a9 xp1 h 0 0 hm) e6 rfl wd_602 wd_490 wd_491 wd_171 wd_489 (by decide +kernel) rfl (by rw [hR.1, hR.2]; decide) (Nat.zero_add _).symm (Nat.zero_add _).symm rfl (Nat.le_of_ble_eq_true rfl) dX11_at_8 (fun r7 h8 hn => ?_)
  clear hm
  have hm := hn
  clear hn
  refine xr_astore_n (r := r7) (lv' := [(3, va_rf r7), (0, .ref a0), (1, .int xp1), (2, .int xp2)]) C dX11_at_11 (by decide) rfl ?_
  refine xr_aload_n (r := r7) C dX11_at_12 0 rfl ?_
  refine xr_ifnull (tgt := 33) C dX11_at_13 (by decide) (fun q10 => ?_) (fun a11 q10 => ?_)
  · replace hm := hm.1 q10
    subst q10
    refine xr_iconst (v := (-1)) C dX11_at_33 rfl ?_
    exact xr_ireturn C hr hlk hm dX11_at_34
  · replace hm := hm.2 a11 q10
    subst q10
    refine xr_aload_n (r := (some a11)) C dX11_at_16 0 rfl ?_
    refine xr_iload_n C dX11_at_17 3 rfl ?_
    obtain ⟨⟨fs12, e12⟩, hm⟩ := hm
    refine xr_cVi (n := 1) (As := [.int xp2]) (st := []) C (c_X4_has a11 xp2 h8 0 0 hm) e12 rfl wd_598 wd_600 wd_601 wd_143 wd_599 (by decide +kernel) rfl (by rw [hR.1, hR.2]; decide) (Nat.zero_add _).symm (Nat.zero_add _).symm rfl (Nat.le_of_ble_eq_true rfl) dX11_at_18 (fun x13 h14 hn => ?_)
    clear hm
    have hm := hn
    clear hn
    refine xr_if_eq (tgt := 33) C dX11_at_21 (by decide) (fun q15 => ?_) (fun q15 => ?_)
    · replace hm := hm.1 q15
      refine xr_iconst (v := (-1)) C dX11_at_33 rfl ?_
      exact xr_ireturn C hr hlk hm dX11_at_34
    · replace hm := hm.2 q15
      refine xr_aload_n (r := (some a11)) C dX11_at_24 0 rfl ?_
      obtain ⟨fs16, r17, e16, f16, hm⟩ := hm
      refine xr_get (ci := 5) C 5 e16 f16 rfl inX4 (by decide) wd_597 dX11_at_25 ?_
      refine xr_iload_n C dX11_at_28 3 rfl ?_
      obtain ⟨a19, rfl, hm⟩ := hm
      obtain ⟨N18, f18, x20, e18, b18, v18, hm⟩ := hm
      refine xr_iald C 0 rfl e18 b18 v18 dX11_at_29 ?_
      refine xr_goto (tgt := 34) C dX11_at_30 (by decide) ?_
      exact xr_ireturn C hr hlk hm dX11_at_34
set_option maxRecDepth 100000 in
set_option maxHeartbeats 4000000 in
theorem k_X11_matched_L2 {p : Program} {l : Launch} {e : Env} {R : Room} {s : State} {m : MethodId} {args : Array Value} {below : List Frame} {meth : Method} {c : Code} {D : va_G} {E : Ev} {A : Nat → Prop} {KC KS : Nat} (C : XC p R s m args c D E A 3 RX11 cX11_matched KC KS) (hr : meth.sig.returnType = (some .boolean)) (hlk : meth.locks = false) (hnm : meth.name = "matched") (hR : R.frames = 4 ∧ R.locals = 88) {Q : Int32 → Hp → Prop} : ∀ (n : Nat) (a0 : Nat) (xv1 : Int32) (h : Hp) (kc ks : Nat), m_X11_matched_L2 n E a0 xv1 h kc ks Q → XW p l e R s m args below meth c (MQ below (va_Qi Q (XPost D A) A) args s KC KS A) D A KC KS 3 h kc ks [(0, .ref a0), (1, .int xv1)] 2 [] := by
  intro n
  induction n with
  | zero => intro a0 xv1 h kc ks hm; exact False.elim hm
  | succ n ih =>
    intro a0 xv1 h kc ks hm
    refine xr_iload_n C dX11_matched_2 1 rfl ?_
    refine xr_aload_n (r := (some a0)) C dX11_matched_3 0 rfl ?_
    obtain ⟨fs2, r3, e2, f2, hm⟩ := hm
    refine xr_get (ci := 12) C 1 e2 f2 rfl inX11 (by decide) wd_524 dX11_matched_4 ?_
    obtain ⟨a5, rfl, hm⟩ := hm
    obtain ⟨fs4, r6, e4, f4, hm⟩ := hm
    refine xr_get (ci := 4) C 2 e4 f4 rfl inX3 (by decide) wd_626 dX11_matched_7 ?_
    obtain ⟨a10, rfl, hm⟩ := hm
    obtain ⟨⟨fs7, e7⟩, hm⟩ := hm
    refine xr_cVi (n := 0) (As := []) (st := [.int xv1]) C (c_Jx4a65c_size_8abf5 a10 h 0 0 hm) e7 rfl wd_558 wd_113 wd_114 wd_45 wd_112 (by decide +kernel) rfl (by rw [hR.1, hR.2]; decide) (Nat.zero_add _).symm (Nat.zero_add _).symm rfl (Nat.le_of_ble_eq_true rfl) dX11_matched_10 (fun x8 h9 hn => ?_)
    clear hm
    have hm := hn
    clear hn
    refine xr_icmp_ge (tgt := 74) C dX11_matched_13 (by decide) (fun q11 => ?_) (fun q11 => ?_)
    · replace hm := hm.1 q11
      refine xr_iconst (v := 1) C dX11_matched_74 rfl ?_
      exact xr_zreturn C hr hlk (Or.inr rfl) hm dX11_matched_75
    · replace hm := hm.2 q11
      refine xr_aload_n (r := (some a0)) C dX11_matched_16 0 rfl ?_
      obtain ⟨fs12, r13, e12, f12, hm⟩ := hm
      refine xr_get (ci := 12) C 1 e12 f12 rfl inX11 (by decide) wd_524 dX11_matched_17 ?_
      obtain ⟨a15, rfl, hm⟩ := hm
      obtain ⟨fs14, r16, e14, f14, hm⟩ := hm
      refine xr_get (ci := 4) C 2 e14 f14 rfl inX3 (by decide) wd_626 dX11_matched_20 ?_
      refine xr_iload_n C dX11_matched_23 1 rfl ?_
      obtain ⟨a20, rfl, hm⟩ := hm
      obtain ⟨⟨fs17, e17⟩, hm⟩ := hm
      refine xr_cVq (n := 1) (As := [.int xv1]) (st := []) C (c_Jx4a65c_get_915e3 a20 xv1 h9 0 0 hm) e17 rfl wd_569 wd_134 wd_135 wd_45 wd_133 (by decide +kernel) rfl (by rw [hR.1, hR.2]; decide) (Nat.zero_add _).symm (Nat.zero_add _).symm rfl (Nat.le_of_ble_eq_true rfl) dX11_matched_24 (fun r18 h19 hn => ?_)
      clear hm
      have hm := hn
      clear hn
      obtain ⟨a22, rfl, hm⟩ := hm
      obtain ⟨⟨fs21, e21⟩, hm⟩ := hm
      refine xr_cast C e21 rfl wd_644 dX11_matched_27 ?_
      refine xr_astore_n (r := (some a22)) (lv' := [(2, .ref a22), (0, .ref a0), (1, .int xv1)]) C dX11_matched_30 (by decide) rfl ?_
      refine xr_aload_n (r := (some a0)) C dX11_matched_31 1 rfl ?_
      obtain ⟨fs23, r24, e23, f23, hm⟩ := hm
      refine xr_get (ci := 12) C 0 e23 f23 rfl inX11 (by decide) wd_523 dX11_matched_32 ?_
      refine xr_aload_n (r := (some a22)) C dX11_matched_35 0 rfl ?_
      obtain ⟨a28, rfl, hm⟩ := hm
      obtain ⟨⟨fs25, e25⟩, hm⟩ := hm
      refine xr_cVi (n := 1) (As := [.ref a22]) (st := []) C (c_X10_purchasesLike a28 (some a22) h19 0 0 hm) e25 rfl wd_650 wd_652 wd_653 wd_178 wd_651 (by decide +kernel) rfl (by rw [hR.1, hR.2]; decide) (Nat.zero_add _).symm (Nat.zero_add _).symm rfl (Nat.le_of_ble_eq_true rfl) dX11_matched_36 (fun x26 h27 hn => ?_)
      clear hm
      have hm := hn
      clear hn
      refine xr_iconst (v := 1) C dX11_matched_39 rfl ?_
      refine xr_icmp_ne (tgt := 66) C dX11_matched_40 (by decide) (fun q29 => ?_) (fun q29 => ?_)
      · replace hm := hm.2 q29
        refine xr_iconst (v := 0) C dX11_matched_66 rfl ?_
        exact xr_zreturn C hr hlk (Or.inl rfl) hm dX11_matched_67
      · replace hm := hm.1 q29
        refine xr_aload_n (r := (some a0)) C dX11_matched_43 1 rfl ?_
        obtain ⟨fs30, r31, e30, f30, hm⟩ := hm
        refine xr_get (ci := 12) C 0 e30 f30 rfl inX11 (by decide) wd_523 dX11_matched_44 ?_
        refine xr_aload_n (r := (some a22)) C dX11_matched_47 0 rfl ?_
        obtain ⟨a35, rfl, hm⟩ := hm
        obtain ⟨⟨fs32, e32⟩, hm⟩ := hm
        refine xr_cVi (n := 1) (As := [.ref a22]) (st := []) C (c_X10_wasAnswered a35 (some a22) h27 0 0 hm) e32 rfl wd_646 wd_648 wd_649 wd_178 wd_647 (by decide +kernel) rfl (by rw [hR.1, hR.2]; decide) (Nat.zero_add _).symm (Nat.zero_add _).symm rfl (Nat.le_of_ble_eq_true rfl) dX11_matched_48 (fun x33 h34 hn => ?_)
        clear hm
        have hm := hn
        clear hn
        refine xr_if_eq (tgt := 66) C dX11_matched_51 (by decide) (fun q36 => ?_) (fun q36 => ?_)
        · replace hm := hm.1 q36
          refine xr_iconst (v := 0) C dX11_matched_66 rfl ?_
          exact xr_zreturn C hr hlk (Or.inl rfl) hm dX11_matched_67
        · replace hm := hm.2 q36
          refine xr_aload_n (r := (some a0)) C dX11_matched_54 1 rfl ?_
          obtain ⟨fs37, r38, e37, f37, hm⟩ := hm
          refine xr_get (ci := 12) C 1 e37 f37 rfl inX11 (by decide) wd_524 dX11_matched_55 ?_
          refine xr_aload_n (r := (some a22)) C dX11_matched_58 0 rfl ?_
          obtain ⟨a42, rfl, hm⟩ := hm
          obtain ⟨⟨fs39, e39⟩, hm⟩ := hm
          refine xr_cVi (n := 1) (As := [.ref a22]) (st := []) C (c_X3_debitsOfCounter a42 (some a22) h34 0 0 hm) e39 rfl wd_645 wd_358 wd_359 wd_330 wd_357 (by decide +kernel) rfl (by rw [hR.1, hR.2]; decide) (Nat.zero_add _).symm (Nat.zero_add _).symm rfl (Nat.le_of_ble_eq_true rfl) dX11_matched_59 (fun x40 h41 hn => ?_)
          clear hm
          have hm := hn
          clear hn
          refine xr_iconst (v := 1) C dX11_matched_62 rfl ?_
          refine xr_icmp_eq (tgt := 68) C dX11_matched_63 (by decide) (fun q43 => ?_) (fun q43 => ?_)
          · replace hm := hm.1 q43
            refine xr_iinc (j := 2) (v := xv1 + 1) (lv' := [(1, .int (xv1 + 1)), (2, .ref a22), (0, .ref a0)]) C dX11_matched_68 rfl rfl (by decide) rfl ?_
            refine xr_goto (tgt := 2) C dX11_matched_71 (by decide) ?_
            refine xr_sub [2, 0] rfl ?_
            exact ih a0 (xv1 + 1) _ _ _ hm
          · replace hm := hm.2 q43
            refine xr_iconst (v := 0) C dX11_matched_66 rfl ?_
            exact xr_zreturn C hr hlk (Or.inl rfl) hm dX11_matched_67
set_option maxRecDepth 100000 in
set_option maxHeartbeats 4000000 in
theorem c_X11_matched {l : Launch} {D : va_G} {E : Ev} (a0 : Nat) (h : Hp) (kc ks : Nat) {Q : Int32 → Hp → Prop} (hm : m_X11_matched E a0 h kc ks Q) : XMet l yX11_matched cX11_matched 3 (some .boolean) 4 88 kc ks D E h [.ref a0] (fun A => va_Qi Q (XPost D A) A) := by
  refine xm_of (lv0 := [(0, .ref a0)]) (by decide) (Nat.le_of_ble_eq_true rfl) rfl RX11 rfl (fun p e s m args below meth c A R hRm C hr hlk hnm => ?_)
  have hR : R.frames = 4 ∧ R.locals = 88 := by rw [hRm]; exact ⟨rfl, rfl⟩
  refine xr_iconst (v := 0) C dX11_matched_0 rfl ?_
  refine xr_istore_n (lv' := [(1, .int 0), (0, .ref a0)]) C dX11_matched_1 (by decide) rfl ?_
  obtain ⟨n1, hm⟩ := hm
  refine xr_sub [1, 0] rfl ?_
  exact k_X11_matched_L2 C hr hlk hnm hR n1 a0 0 _ _ _ hm
set_option maxRecDepth 100000 in
set_option maxHeartbeats 4000000 in
theorem c_X12_init {l : Launch} {D : va_G} {E : Ev} (a0 : Nat) (h : Hp) (kc ks : Nat) {Q : Hp → Prop} (hm : m_X12_init E a0 h kc ks Q) : XMet l yX12_init cX12_init 1 none 1 24 kc ks D E h [.ref a0] (fun A => va_Qv Q (XPost D A) A) := by
  refine xm_of (lv0 := [(0, .ref a0)]) (by decide) (Nat.le_of_ble_eq_true rfl) rfl RX12 rfl (fun p e s m args below meth c A R hRm C hr hlk hnm => ?_)
  have hR : R.frames = 1 ∧ R.locals = 24 := by rw [hRm]; exact ⟨rfl, rfl⟩
  refine xr_aload_n (r := (some a0)) C dX12_init_0 0 rfl ?_
  refine xr_obj C wd_654 wd_1 wd_2 (by rw [hR.1]; decide) (by rw [hR.2]; exact Nat.le_of_ble_eq_true rfl) dX12_init_1 ?_
  refine xr_aload_n (r := (some a0)) C dX12_init_4 0 rfl ?_
  refine xr_sipush (v := 4096) C dX12_init_5 rfl ?_
  obtain ⟨N2, kc5, ks6, b2, c2, z2, kk2, kl2, hm⟩ := hm
  refine xr_newa_int C 0 rfl wd_138 b2 c2 z2 kk2 kl2 dX12_init_8 (fun a3 h4 na2 eh2 => ?_)
  replace hm := hm a3 h4 na2 eh2
  obtain ⟨fs7, e7, f7, h8, eh7, hm⟩ := hm
  refine xr_putF (ci := 13) (v := .ref a3) C 1 (.array .int) tyX12 tyX12_ok nmX12 e7 f7 rfl inX12 (by decide) wd_655 rfl hnm rfl (by decide) rfl rfl eh7 dX12_init_10 ?_
  refine xr_aload_n (r := (some a0)) C dX12_init_13 0 rfl ?_
  refine xr_sipush (v := 4096) C dX12_init_14 rfl ?_
  obtain ⟨N9, kc12, ks13, b9, c9, z9, kk9, kl9, hm⟩ := hm
  refine xr_newa_int C 0 rfl wd_138 b9 c9 z9 kk9 kl9 dX12_init_17 (fun a10 h11 na9 eh9 => ?_)
  replace hm := hm a10 h11 na9 eh9
  obtain ⟨fs14, e14, f14, h15, eh14, hm⟩ := hm
  refine xr_putF (ci := 13) (v := .ref a10) C 2 (.array .int) tyX12 tyX12_ok nmX12 e14 f14 rfl inX12 (by decide) wd_656 rfl hnm rfl (by decide) rfl rfl eh14 dX12_init_19 ?_
  refine xr_aload_n (r := (some a0)) C dX12_init_22 0 rfl ?_
  refine xr_ldc (v := 49152) C dX12_init_23 wd_657 ?_
  obtain ⟨N16, kc19, ks20, b16, c16, z16, kk16, kl16, hm⟩ := hm
  refine xr_newa_long C 1 rfl wd_61 b16 c16 z16 kk16 kl16 dX12_init_25 (fun a17 h18 na16 eh16 => ?_)
  replace hm := hm a17 h18 na16 eh16
  obtain ⟨fs21, e21, f21, h22, eh21, hm⟩ := hm
  refine xr_putF (ci := 13) (v := .ref a17) C 3 (.array .long) tyX12 tyX12_ok nmX12 e21 f21 rfl inX12 (by decide) wd_658 rfl hnm rfl (by decide) rfl rfl eh21 dX12_init_27 ?_
  refine xr_aload_n (r := (some a0)) C dX12_init_30 0 rfl ?_
  refine xr_bipush (v := 12) C dX12_init_31 rfl ?_
  obtain ⟨N23, kc26, ks27, b23, c23, z23, kk23, kl23, hm⟩ := hm
  refine xr_newa_long C 1 rfl wd_61 b23 c23 z23 kk23 kl23 dX12_init_33 (fun a24 h25 na23 eh23 => ?_)
  replace hm := hm a24 h25 na23 eh23
  obtain ⟨fs28, e28, f28, h29, eh28, hm⟩ := hm
  refine xr_putF (ci := 13) (v := .ref a24) C 4 (.array .long) tyX12 tyX12_ok nmX12 e28 f28 rfl inX12 (by decide) wd_659 rfl hnm rfl (by decide) rfl rfl eh28 dX12_init_35 ?_
  refine xr_aload_n (r := (some a0)) C dX12_init_38 0 rfl ?_
  refine xr_bipush (v := 60) C dX12_init_39 rfl ?_
  obtain ⟨N30, kc33, ks34, b30, c30, z30, kk30, kl30, hm⟩ := hm
  refine xr_newa_int C 0 rfl wd_138 b30 c30 z30 kk30 kl30 dX12_init_41 (fun a31 h32 na30 eh30 => ?_)
  replace hm := hm a31 h32 na30 eh30
  obtain ⟨fs35, e35, f35, h36, eh35, hm⟩ := hm
  refine xr_putF (ci := 13) (v := .ref a31) C 7 (.array .int) tyX12 tyX12_ok nmX12 e35 f35 rfl inX12 (by decide) wd_660 rfl hnm rfl (by decide) rfl rfl eh35 dX12_init_43 ?_
  refine xr_aload_n (r := (some a0)) C dX12_init_46 0 rfl ?_
  refine xr_bipush (v := 60) C dX12_init_47 rfl ?_
  obtain ⟨N37, kc40, ks41, b37, c37, z37, kk37, kl37, hm⟩ := hm
  refine xr_newa_int C 0 rfl wd_138 b37 c37 z37 kk37 kl37 dX12_init_49 (fun a38 h39 na37 eh37 => ?_)
  replace hm := hm a38 h39 na37 eh37
  obtain ⟨fs42, e42, f42, h43, eh42, hm⟩ := hm
  refine xr_putF (ci := 13) (v := .ref a38) C 8 (.array .int) tyX12 tyX12_ok nmX12 e42 f42 rfl inX12 (by decide) wd_661 rfl hnm rfl (by decide) rfl rfl eh42 dX12_init_51 ?_
  refine xr_aload_n (r := (some a0)) C dX12_init_54 0 rfl ?_
  refine xr_bipush (v := 60) C dX12_init_55 rfl ?_
  obtain ⟨N44, kc47, ks48, b44, c44, z44, kk44, kl44, hm⟩ := hm
  refine xr_newa_int C 0 rfl wd_138 b44 c44 z44 kk44 kl44 dX12_init_57 (fun a45 h46 na44 eh44 => ?_)
  replace hm := hm a45 h46 na44 eh44
  obtain ⟨fs49, e49, f49, h50, eh49, hm⟩ := hm
  refine xr_putF (ci := 13) (v := .ref a45) C 9 (.array .int) tyX12 tyX12_ok nmX12 e49 f49 rfl inX12 (by decide) wd_662 rfl hnm rfl (by decide) rfl rfl eh49 dX12_init_59 ?_
  refine xr_aload_n (r := (some a0)) C dX12_init_62 0 rfl ?_
  refine xr_bipush (v := 60) C dX12_init_63 rfl ?_
  obtain ⟨N51, kc54, ks55, b51, c51, z51, kk51, kl51, hm⟩ := hm
  refine xr_newa_int C 0 rfl wd_138 b51 c51 z51 kk51 kl51 dX12_init_65 (fun a52 h53 na51 eh51 => ?_)
  replace hm := hm a52 h53 na51 eh51
  obtain ⟨fs56, e56, f56, h57, eh56, hm⟩ := hm
  refine xr_putF (ci := 13) (v := .ref a52) C 10 (.array .int) tyX12 tyX12_ok nmX12 e56 f56 rfl inX12 (by decide) wd_663 rfl hnm rfl (by decide) rfl rfl eh56 dX12_init_67 ?_
  refine xr_aload_n (r := (some a0)) C dX12_init_70 0 rfl ?_
  refine xr_bipush (v := 60) C dX12_init_71 rfl ?_
  obtain ⟨N58, kc61, ks62, b58, c58, z58, kk58, kl58, hm⟩ := hm
  refine xr_newa_int C 0 rfl wd_138 b58 c58 z58 kk58 kl58 dX12_init_73 (fun a59 h60 na58 eh58 => ?_)
  replace hm := hm a59 h60 na58 eh58
  obtain ⟨fs63, e63, f63, h64, eh63, hm⟩ := hm
  refine xr_putF (ci := 13) (v := .ref a59) C 11 (.array .int) tyX12 tyX12_ok nmX12 e63 f63 rfl inX12 (by decide) wd_664 rfl hnm rfl (by decide) rfl rfl eh63 dX12_init_75 ?_
  refine xr_aload_n (r := (some a0)) C dX12_init_78 0 rfl ?_
  refine xr_sipush (v := 3840) C dX12_init_79 rfl ?_
  obtain ⟨N65, kc68, ks69, b65, c65, z65, kk65, kl65, hm⟩ := hm
  refine xr_newa_int C 0 rfl wd_138 b65 c65 z65 kk65 kl65 dX12_init_82 (fun a66 h67 na65 eh65 => ?_)
  replace hm := hm a66 h67 na65 eh65
  obtain ⟨fs70, e70, f70, h71, eh70, hm⟩ := hm
  refine xr_putF (ci := 13) (v := .ref a66) C 12 (.array .int) tyX12 tyX12_ok nmX12 e70 f70 rfl inX12 (by decide) wd_665 rfl hnm rfl (by decide) rfl rfl eh70 dX12_init_84 ?_
  refine xr_aload_n (r := (some a0)) C dX12_init_87 0 rfl ?_
  refine xr_bipush (v := 64) C dX12_init_88 rfl ?_
  obtain ⟨N72, kc75, ks76, b72, c72, z72, kk72, kl72, hm⟩ := hm
  refine xr_newa_int C 0 rfl wd_138 b72 c72 z72 kk72 kl72 dX12_init_90 (fun a73 h74 na72 eh72 => ?_)
  replace hm := hm a73 h74 na72 eh72
  obtain ⟨fs77, e77, f77, h78, eh77, hm⟩ := hm
  refine xr_putF (ci := 13) (v := .ref a73) C 15 (.array .int) tyX12 tyX12_ok nmX12 e77 f77 rfl inX12 (by decide) wd_666 rfl hnm rfl (by decide) rfl rfl eh77 dX12_init_92 ?_
  refine xr_aload_n (r := (some a0)) C dX12_init_95 0 rfl ?_
  refine xr_bipush (v := 12) C dX12_init_96 rfl ?_
  obtain ⟨N79, kc82, ks83, b79, c79, z79, kk79, kl79, hm⟩ := hm
  refine xr_newa_long C 1 rfl wd_61 b79 c79 z79 kk79 kl79 dX12_init_98 (fun a80 h81 na79 eh79 => ?_)
  replace hm := hm a80 h81 na79 eh79
  obtain ⟨fs84, e84, f84, h85, eh84, hm⟩ := hm
  refine xr_putF (ci := 13) (v := .ref a80) C 17 (.array .long) tyX12 tyX12_ok nmX12 e84 f84 rfl inX12 (by decide) wd_667 rfl hnm rfl (by decide) rfl rfl eh84 dX12_init_100 ?_
  refine xr_aload_n (r := (some a0)) C dX12_init_103 0 rfl ?_
  refine xr_bipush (v := 12) C dX12_init_104 rfl ?_
  obtain ⟨N86, kc89, ks90, b86, c86, z86, kk86, kl86, hm⟩ := hm
  refine xr_newa_long C 1 rfl wd_61 b86 c86 z86 kk86 kl86 dX12_init_106 (fun a87 h88 na86 eh86 => ?_)
  replace hm := hm a87 h88 na86 eh86
  obtain ⟨fs91, e91, f91, h92, eh91, hm⟩ := hm
  refine xr_putF (ci := 13) (v := .ref a87) C 18 (.array .long) tyX12 tyX12_ok nmX12 e91 f91 rfl inX12 (by decide) wd_668 rfl hnm rfl (by decide) rfl rfl eh91 dX12_init_108 ?_
  refine xr_aload_n (r := (some a0)) C dX12_init_111 0 rfl ?_
  refine xr_bipush (v := 64) C dX12_init_112 rfl ?_
  obtain ⟨N93, kc96, ks97, b93, c93, z93, kk93, kl93, hm⟩ := hm
  refine xr_newa_int C 0 rfl wd_138 b93 c93 z93 kk93 kl93 dX12_init_114 (fun a94 h95 na93 eh93 => ?_)
  replace hm := hm a94 h95 na93 eh93
  obtain ⟨fs98, e98, f98, h99, eh98, hm⟩ := hm
  refine xr_putF (ci := 13) (v := .ref a94) C 19 (.array .int) tyX12 tyX12_ok nmX12 e98 f98 rfl inX12 (by decide) wd_669 rfl hnm rfl (by decide) rfl rfl eh98 dX12_init_116 ?_
  refine xr_aload_n (r := (some a0)) C dX12_init_119 0 rfl ?_
  refine xr_bipush (v := 16) C dX12_init_120 rfl ?_
  obtain ⟨N100, kc103, ks104, b100, c100, z100, kk100, kl100, hm⟩ := hm
  refine xr_newa_int C 0 rfl wd_138 b100 c100 z100 kk100 kl100 dX12_init_122 (fun a101 h102 na100 eh100 => ?_)
  replace hm := hm a101 h102 na100 eh100
  obtain ⟨fs105, e105, f105, h106, eh105, hm⟩ := hm
  refine xr_putF (ci := 13) (v := .ref a101) C 22 (.array .int) tyX12 tyX12_ok nmX12 e105 f105 rfl inX12 (by decide) wd_670 rfl hnm rfl (by decide) rfl rfl eh105 dX12_init_124 ?_
  refine xr_aload_n (r := (some a0)) C dX12_init_127 0 rfl ?_
  refine xr_bipush (v := 16) C dX12_init_128 rfl ?_
  obtain ⟨N107, kc110, ks111, b107, c107, z107, kk107, kl107, hm⟩ := hm
  refine xr_newa_long C 1 rfl wd_61 b107 c107 z107 kk107 kl107 dX12_init_130 (fun a108 h109 na107 eh107 => ?_)
  replace hm := hm a108 h109 na107 eh107
  obtain ⟨fs112, e112, f112, h113, eh112, hm⟩ := hm
  refine xr_putF (ci := 13) (v := .ref a108) C 23 (.array .long) tyX12 tyX12_ok nmX12 e112 f112 rfl inX12 (by decide) wd_671 rfl hnm rfl (by decide) rfl rfl eh112 dX12_init_132 ?_
  refine xr_aload_n (r := (some a0)) C dX12_init_135 0 rfl ?_
  refine xr_bipush (v := 16) C dX12_init_136 rfl ?_
  obtain ⟨N114, kc117, ks118, b114, c114, z114, kk114, kl114, hm⟩ := hm
  refine xr_newa_int C 0 rfl wd_138 b114 c114 z114 kk114 kl114 dX12_init_138 (fun a115 h116 na114 eh114 => ?_)
  replace hm := hm a115 h116 na114 eh114
  obtain ⟨fs119, e119, f119, h120, eh119, hm⟩ := hm
  refine xr_putF (ci := 13) (v := .ref a115) C 24 (.array .int) tyX12 tyX12_ok nmX12 e119 f119 rfl inX12 (by decide) wd_672 rfl hnm rfl (by decide) rfl rfl eh119 dX12_init_140 ?_
  refine xr_aload_n (r := (some a0)) C dX12_init_143 0 rfl ?_
  refine xr_bipush (v := 16) C dX12_init_144 rfl ?_
  obtain ⟨N121, kc124, ks125, b121, c121, z121, kk121, kl121, hm⟩ := hm
  refine xr_newa_long C 1 rfl wd_61 b121 c121 z121 kk121 kl121 dX12_init_146 (fun a122 h123 na121 eh121 => ?_)
  replace hm := hm a122 h123 na121 eh121
  obtain ⟨fs126, e126, f126, h127, eh126, hm⟩ := hm
  refine xr_putF (ci := 13) (v := .ref a122) C 25 (.array .long) tyX12 tyX12_ok nmX12 e126 f126 rfl inX12 (by decide) wd_673 rfl hnm rfl (by decide) rfl rfl eh126 dX12_init_148 ?_
  refine xr_aload_n (r := (some a0)) C dX12_init_151 0 rfl ?_
  refine xr_bipush (v := 16) C dX12_init_152 rfl ?_
  obtain ⟨N128, kc131, ks132, b128, c128, z128, kk128, kl128, hm⟩ := hm
  refine xr_newa_int C 0 rfl wd_138 b128 c128 z128 kk128 kl128 dX12_init_154 (fun a129 h130 na128 eh128 => ?_)
  replace hm := hm a129 h130 na128 eh128
  obtain ⟨fs133, e133, f133, h134, eh133, hm⟩ := hm
  refine xr_putF (ci := 13) (v := .ref a129) C 26 (.array .int) tyX12 tyX12_ok nmX12 e133 f133 rfl inX12 (by decide) wd_674 rfl hnm rfl (by decide) rfl rfl eh133 dX12_init_156 ?_
  refine xr_aload_n (r := (some a0)) C dX12_init_159 0 rfl ?_
  refine xr_bipush (v := 16) C dX12_init_160 rfl ?_
  obtain ⟨N135, kc138, ks139, b135, c135, z135, kk135, kl135, hm⟩ := hm
  refine xr_newa_int C 0 rfl wd_138 b135 c135 z135 kk135 kl135 dX12_init_162 (fun a136 h137 na135 eh135 => ?_)
  replace hm := hm a136 h137 na135 eh135
  obtain ⟨fs140, e140, f140, h141, eh140, hm⟩ := hm
  refine xr_putF (ci := 13) (v := .ref a136) C 27 (.array .int) tyX12 tyX12_ok nmX12 e140 f140 rfl inX12 (by decide) wd_675 rfl hnm rfl (by decide) rfl rfl eh140 dX12_init_164 ?_
  refine xr_aload_n (r := (some a0)) C dX12_init_167 0 rfl ?_
  refine xr_bipush (v := 16) C dX12_init_168 rfl ?_
  obtain ⟨N142, kc145, ks146, b142, c142, z142, kk142, kl142, hm⟩ := hm
  refine xr_newa_int C 0 rfl wd_138 b142 c142 z142 kk142 kl142 dX12_init_170 (fun a143 h144 na142 eh142 => ?_)
  replace hm := hm a143 h144 na142 eh142
  obtain ⟨fs147, e147, f147, h148, eh147, hm⟩ := hm
  refine xr_putF (ci := 13) (v := .ref a143) C 28 (.array .int) tyX12 tyX12_ok nmX12 e147 f147 rfl inX12 (by decide) wd_676 rfl hnm rfl (by decide) rfl rfl eh147 dX12_init_172 ?_
  refine xr_aload_n (r := (some a0)) C dX12_init_175 0 rfl ?_
  refine xr_bipush (v := 16) C dX12_init_176 rfl ?_
  obtain ⟨N149, kc152, ks153, b149, c149, z149, kk149, kl149, hm⟩ := hm
  refine xr_newa_int C 0 rfl wd_138 b149 c149 z149 kk149 kl149 dX12_init_178 (fun a150 h151 na149 eh149 => ?_)
  replace hm := hm a150 h151 na149 eh149
  obtain ⟨fs154, e154, f154, h155, eh154, hm⟩ := hm
  refine xr_putF (ci := 13) (v := .ref a150) C 29 (.array .int) tyX12 tyX12_ok nmX12 e154 f154 rfl inX12 (by decide) wd_677 rfl hnm rfl (by decide) rfl rfl eh154 dX12_init_180 ?_
  refine xr_aload_n (r := (some a0)) C dX12_init_183 0 rfl ?_
  refine xr_bipush (v := 16) C dX12_init_184 rfl ?_
  obtain ⟨N156, kc159, ks160, b156, c156, z156, kk156, kl156, hm⟩ := hm
  refine xr_newa_int C 0 rfl wd_138 b156 c156 z156 kk156 kl156 dX12_init_186 (fun a157 h158 na156 eh156 => ?_)
  replace hm := hm a157 h158 na156 eh156
  obtain ⟨fs161, e161, f161, h162, eh161, hm⟩ := hm
  refine xr_putF (ci := 13) (v := .ref a157) C 30 (.array .int) tyX12 tyX12_ok nmX12 e161 f161 rfl inX12 (by decide) wd_678 rfl hnm rfl (by decide) rfl rfl eh161 dX12_init_188 ?_
  refine xr_aload_n (r := (some a0)) C dX12_init_191 0 rfl ?_
  refine xr_bipush (v := 16) C dX12_init_192 rfl ?_
  obtain ⟨N163, kc166, ks167, b163, c163, z163, kk163, kl163, hm⟩ := hm
  refine xr_newa_int C 0 rfl wd_138 b163 c163 z163 kk163 kl163 dX12_init_194 (fun a164 h165 na163 eh163 => ?_)
  replace hm := hm a164 h165 na163 eh163
  obtain ⟨fs168, e168, f168, h169, eh168, hm⟩ := hm
  refine xr_putF (ci := 13) (v := .ref a164) C 31 (.array .int) tyX12 tyX12_ok nmX12 e168 f168 rfl inX12 (by decide) wd_679 rfl hnm rfl (by decide) rfl rfl eh168 dX12_init_196 ?_
  refine xr_aload_n (r := (some a0)) C dX12_init_199 0 rfl ?_
  refine xr_bipush (v := 16) C dX12_init_200 rfl ?_
  obtain ⟨N170, kc173, ks174, b170, c170, z170, kk170, kl170, hm⟩ := hm
  refine xr_newa_long C 1 rfl wd_61 b170 c170 z170 kk170 kl170 dX12_init_202 (fun a171 h172 na170 eh170 => ?_)
  replace hm := hm a171 h172 na170 eh170
  obtain ⟨fs175, e175, f175, h176, eh175, hm⟩ := hm
  refine xr_putF (ci := 13) (v := .ref a171) C 32 (.array .long) tyX12 tyX12_ok nmX12 e175 f175 rfl inX12 (by decide) wd_680 rfl hnm rfl (by decide) rfl rfl eh175 dX12_init_204 ?_
  refine xr_aload_n (r := (some a0)) C dX12_init_207 0 rfl ?_
  refine xr_bipush (v := 16) C dX12_init_208 rfl ?_
  obtain ⟨N177, kc180, ks181, b177, c177, z177, kk177, kl177, hm⟩ := hm
  refine xr_newa_long C 1 rfl wd_61 b177 c177 z177 kk177 kl177 dX12_init_210 (fun a178 h179 na177 eh177 => ?_)
  replace hm := hm a178 h179 na177 eh177
  obtain ⟨fs182, e182, f182, h183, eh182, hm⟩ := hm
  refine xr_putF (ci := 13) (v := .ref a178) C 33 (.array .long) tyX12 tyX12_ok nmX12 e182 f182 rfl inX12 (by decide) wd_681 rfl hnm rfl (by decide) rfl rfl eh182 dX12_init_212 ?_
  refine xr_aload_n (r := (some a0)) C dX12_init_215 0 rfl ?_
  refine xr_bipush (v := 16) C dX12_init_216 rfl ?_
  obtain ⟨N184, kc187, ks188, b184, c184, z184, kk184, kl184, hm⟩ := hm
  refine xr_newa_long C 1 rfl wd_61 b184 c184 z184 kk184 kl184 dX12_init_218 (fun a185 h186 na184 eh184 => ?_)
  replace hm := hm a185 h186 na184 eh184
  obtain ⟨fs189, e189, f189, h190, eh189, hm⟩ := hm
  refine xr_putF (ci := 13) (v := .ref a185) C 34 (.array .long) tyX12 tyX12_ok nmX12 e189 f189 rfl inX12 (by decide) wd_682 rfl hnm rfl (by decide) rfl rfl eh189 dX12_init_220 ?_
  refine xr_aload_n (r := (some a0)) C dX12_init_223 0 rfl ?_
  refine xr_bipush (v := 16) C dX12_init_224 rfl ?_
  obtain ⟨N191, kc194, ks195, b191, c191, z191, kk191, kl191, hm⟩ := hm
  refine xr_newa_int C 0 rfl wd_138 b191 c191 z191 kk191 kl191 dX12_init_226 (fun a192 h193 na191 eh191 => ?_)
  replace hm := hm a192 h193 na191 eh191
  obtain ⟨fs196, e196, f196, h197, eh196, hm⟩ := hm
  refine xr_putF (ci := 13) (v := .ref a192) C 35 (.array .int) tyX12 tyX12_ok nmX12 e196 f196 rfl inX12 (by decide) wd_683 rfl hnm rfl (by decide) rfl rfl eh196 dX12_init_228 ?_
  refine xr_aload_n (r := (some a0)) C dX12_init_231 0 rfl ?_
  refine xr_bipush (v := 8) C dX12_init_232 rfl ?_
  obtain ⟨N198, kc201, ks202, b198, c198, z198, kk198, kl198, hm⟩ := hm
  refine xr_newa_long C 1 rfl wd_61 b198 c198 z198 kk198 kl198 dX12_init_234 (fun a199 h200 na198 eh198 => ?_)
  replace hm := hm a199 h200 na198 eh198
  obtain ⟨fs203, e203, f203, h204, eh203, hm⟩ := hm
  refine xr_putF (ci := 13) (v := .ref a199) C 37 (.array .long) tyX12 tyX12_ok nmX12 e203 f203 rfl inX12 (by decide) wd_684 rfl hnm rfl (by decide) rfl rfl eh203 dX12_init_236 ?_
  refine xr_aload_n (r := (some a0)) C dX12_init_239 0 rfl ?_
  refine xr_bipush (v := 8) C dX12_init_240 rfl ?_
  obtain ⟨N205, kc208, ks209, b205, c205, z205, kk205, kl205, hm⟩ := hm
  refine xr_newa_long C 1 rfl wd_61 b205 c205 z205 kk205 kl205 dX12_init_242 (fun a206 h207 na205 eh205 => ?_)
  replace hm := hm a206 h207 na205 eh205
  obtain ⟨fs210, e210, f210, h211, eh210, hm⟩ := hm
  refine xr_putF (ci := 13) (v := .ref a206) C 38 (.array .long) tyX12 tyX12_ok nmX12 e210 f210 rfl inX12 (by decide) wd_685 rfl hnm rfl (by decide) rfl rfl eh210 dX12_init_244 ?_
  refine xr_aload_n (r := (some a0)) C dX12_init_247 0 rfl ?_
  refine xr_bipush (v := 8) C dX12_init_248 rfl ?_
  obtain ⟨N212, kc215, ks216, b212, c212, z212, kk212, kl212, hm⟩ := hm
  refine xr_newa_long C 1 rfl wd_61 b212 c212 z212 kk212 kl212 dX12_init_250 (fun a213 h214 na212 eh212 => ?_)
  replace hm := hm a213 h214 na212 eh212
  obtain ⟨fs217, e217, f217, h218, eh217, hm⟩ := hm
  refine xr_putF (ci := 13) (v := .ref a213) C 39 (.array .long) tyX12 tyX12_ok nmX12 e217 f217 rfl inX12 (by decide) wd_686 rfl hnm rfl (by decide) rfl rfl eh217 dX12_init_252 ?_
  refine xr_aload_n (r := (some a0)) C dX12_init_255 0 rfl ?_
  refine xr_bipush (v := 8) C dX12_init_256 rfl ?_
  obtain ⟨N219, kc222, ks223, b219, c219, z219, kk219, kl219, hm⟩ := hm
  refine xr_newa_int C 0 rfl wd_138 b219 c219 z219 kk219 kl219 dX12_init_258 (fun a220 h221 na219 eh219 => ?_)
  replace hm := hm a220 h221 na219 eh219
  obtain ⟨fs224, e224, f224, h225, eh224, hm⟩ := hm
  refine xr_putF (ci := 13) (v := .ref a220) C 40 (.array .int) tyX12 tyX12_ok nmX12 e224 f224 rfl inX12 (by decide) wd_687 rfl hnm rfl (by decide) rfl rfl eh224 dX12_init_260 ?_
  refine xr_aload_n (r := (some a0)) C dX12_init_263 0 rfl ?_
  refine xr_bipush (v := 8) C dX12_init_264 rfl ?_
  obtain ⟨N226, kc229, ks230, b226, c226, z226, kk226, kl226, hm⟩ := hm
  refine xr_newa_int C 0 rfl wd_138 b226 c226 z226 kk226 kl226 dX12_init_266 (fun a227 h228 na226 eh226 => ?_)
  replace hm := hm a227 h228 na226 eh226
  obtain ⟨fs231, e231, f231, h232, eh231, hm⟩ := hm
  refine xr_putF (ci := 13) (v := .ref a227) C 41 (.array .int) tyX12 tyX12_ok nmX12 e231 f231 rfl inX12 (by decide) wd_688 rfl hnm rfl (by decide) rfl rfl eh231 dX12_init_268 ?_
  refine xr_aload_n (r := (some a0)) C dX12_init_271 0 rfl ?_
  refine xr_bipush (v := 8) C dX12_init_272 rfl ?_
  obtain ⟨N233, kc236, ks237, b233, c233, z233, kk233, kl233, hm⟩ := hm
  refine xr_newa_long C 1 rfl wd_61 b233 c233 z233 kk233 kl233 dX12_init_274 (fun a234 h235 na233 eh233 => ?_)
  replace hm := hm a234 h235 na233 eh233
  obtain ⟨fs238, e238, f238, h239, eh238, hm⟩ := hm
  refine xr_putF (ci := 13) (v := .ref a234) C 42 (.array .long) tyX12 tyX12_ok nmX12 e238 f238 rfl inX12 (by decide) wd_689 rfl hnm rfl (by decide) rfl rfl eh238 dX12_init_276 ?_
  refine xr_aload_n (r := (some a0)) C dX12_init_279 0 rfl ?_
  refine xr_bipush (v := 8) C dX12_init_280 rfl ?_
  obtain ⟨N240, kc243, ks244, b240, c240, z240, kk240, kl240, hm⟩ := hm
  refine xr_newa_int C 0 rfl wd_138 b240 c240 z240 kk240 kl240 dX12_init_282 (fun a241 h242 na240 eh240 => ?_)
  replace hm := hm a241 h242 na240 eh240
  obtain ⟨fs245, e245, f245, h246, eh245, hm⟩ := hm
  refine xr_putF (ci := 13) (v := .ref a241) C 43 (.array .int) tyX12 tyX12_ok nmX12 e245 f245 rfl inX12 (by decide) wd_690 rfl hnm rfl (by decide) rfl rfl eh245 dX12_init_284 ?_
  refine xr_aload_n (r := (some a0)) C dX12_init_287 0 rfl ?_
  refine xr_bipush (v := 8) C dX12_init_288 rfl ?_
  obtain ⟨N247, kc250, ks251, b247, c247, z247, kk247, kl247, hm⟩ := hm
  refine xr_newa_long C 1 rfl wd_61 b247 c247 z247 kk247 kl247 dX12_init_290 (fun a248 h249 na247 eh247 => ?_)
  replace hm := hm a248 h249 na247 eh247
  obtain ⟨fs252, e252, f252, h253, eh252, hm⟩ := hm
  refine xr_putF (ci := 13) (v := .ref a248) C 44 (.array .long) tyX12 tyX12_ok nmX12 e252 f252 rfl inX12 (by decide) wd_691 rfl hnm rfl (by decide) rfl rfl eh252 dX12_init_292 ?_
  refine xr_aload_n (r := (some a0)) C dX12_init_295 0 rfl ?_
  refine xr_bipush (v := 8) C dX12_init_296 rfl ?_
  obtain ⟨N254, kc257, ks258, b254, c254, z254, kk254, kl254, hm⟩ := hm
  refine xr_newa_long C 1 rfl wd_61 b254 c254 z254 kk254 kl254 dX12_init_298 (fun a255 h256 na254 eh254 => ?_)
  replace hm := hm a255 h256 na254 eh254
  obtain ⟨fs259, e259, f259, h260, eh259, hm⟩ := hm
  refine xr_putF (ci := 13) (v := .ref a255) C 45 (.array .long) tyX12 tyX12_ok nmX12 e259 f259 rfl inX12 (by decide) wd_692 rfl hnm rfl (by decide) rfl rfl eh259 dX12_init_300 ?_
  refine xr_aload_n (r := (some a0)) C dX12_init_303 0 rfl ?_
  refine xr_bipush (v := 8) C dX12_init_304 rfl ?_
  obtain ⟨N261, kc264, ks265, b261, c261, z261, kk261, kl261, hm⟩ := hm
  refine xr_newa_int C 0 rfl wd_138 b261 c261 z261 kk261 kl261 dX12_init_306 (fun a262 h263 na261 eh261 => ?_)
  replace hm := hm a262 h263 na261 eh261
  obtain ⟨fs266, e266, f266, h267, eh266, hm⟩ := hm
  refine xr_putF (ci := 13) (v := .ref a262) C 46 (.array .int) tyX12 tyX12_ok nmX12 e266 f266 rfl inX12 (by decide) wd_693 rfl hnm rfl (by decide) rfl rfl eh266 dX12_init_308 ?_
  refine xr_aload_n (r := (some a0)) C dX12_init_311 0 rfl ?_
  refine xr_bipush (v := 8) C dX12_init_312 rfl ?_
  obtain ⟨N268, kc271, ks272, b268, c268, z268, kk268, kl268, hm⟩ := hm
  refine xr_newa_int C 0 rfl wd_138 b268 c268 z268 kk268 kl268 dX12_init_314 (fun a269 h270 na268 eh268 => ?_)
  replace hm := hm a269 h270 na268 eh268
  obtain ⟨fs273, e273, f273, h274, eh273, hm⟩ := hm
  refine xr_putF (ci := 13) (v := .ref a269) C 47 (.array .int) tyX12 tyX12_ok nmX12 e273 f273 rfl inX12 (by decide) wd_694 rfl hnm rfl (by decide) rfl rfl eh273 dX12_init_316 ?_
  refine xr_aload_n (r := (some a0)) C dX12_init_319 0 rfl ?_
  refine xr_bipush (v := 8) C dX12_init_320 rfl ?_
  obtain ⟨N275, kc278, ks279, b275, c275, z275, kk275, kl275, hm⟩ := hm
  refine xr_newa_int C 0 rfl wd_138 b275 c275 z275 kk275 kl275 dX12_init_322 (fun a276 h277 na275 eh275 => ?_)
  replace hm := hm a276 h277 na275 eh275
  obtain ⟨fs280, e280, f280, h281, eh280, hm⟩ := hm
  refine xr_putF (ci := 13) (v := .ref a276) C 48 (.array .int) tyX12 tyX12_ok nmX12 e280 f280 rfl inX12 (by decide) wd_695 rfl hnm rfl (by decide) rfl rfl eh280 dX12_init_324 ?_
  refine xr_aload_n (r := (some a0)) C dX12_init_327 0 rfl ?_
  refine xr_bipush (v := 8) C dX12_init_328 rfl ?_
  obtain ⟨N282, kc285, ks286, b282, c282, z282, kk282, kl282, hm⟩ := hm
  refine xr_newa_int C 0 rfl wd_138 b282 c282 z282 kk282 kl282 dX12_init_330 (fun a283 h284 na282 eh282 => ?_)
  replace hm := hm a283 h284 na282 eh282
  obtain ⟨fs287, e287, f287, h288, eh287, hm⟩ := hm
  refine xr_putF (ci := 13) (v := .ref a283) C 49 (.array .int) tyX12 tyX12_ok nmX12 e287 f287 rfl inX12 (by decide) wd_696 rfl hnm rfl (by decide) rfl rfl eh287 dX12_init_332 ?_
  refine xr_aload_n (r := (some a0)) C dX12_init_335 0 rfl ?_
  refine xr_bipush (v := 8) C dX12_init_336 rfl ?_
  obtain ⟨N289, kc292, ks293, b289, c289, z289, kk289, kl289, hm⟩ := hm
  refine xr_newa_int C 0 rfl wd_138 b289 c289 z289 kk289 kl289 dX12_init_338 (fun a290 h291 na289 eh289 => ?_)
  replace hm := hm a290 h291 na289 eh289
  obtain ⟨fs294, e294, f294, h295, eh294, hm⟩ := hm
  refine xr_putF (ci := 13) (v := .ref a290) C 50 (.array .int) tyX12 tyX12_ok nmX12 e294 f294 rfl inX12 (by decide) wd_697 rfl hnm rfl (by decide) rfl rfl eh294 dX12_init_340 ?_
  refine xr_aload_n (r := (some a0)) C dX12_init_343 0 rfl ?_
  refine xr_bipush (v := 8) C dX12_init_344 rfl ?_
  obtain ⟨N296, kc299, ks300, b296, c296, z296, kk296, kl296, hm⟩ := hm
  refine xr_newa_int C 0 rfl wd_138 b296 c296 z296 kk296 kl296 dX12_init_346 (fun a297 h298 na296 eh296 => ?_)
  replace hm := hm a297 h298 na296 eh296
  obtain ⟨fs301, e301, f301, h302, eh301, hm⟩ := hm
  refine xr_putF (ci := 13) (v := .ref a297) C 51 (.array .int) tyX12 tyX12_ok nmX12 e301 f301 rfl inX12 (by decide) wd_698 rfl hnm rfl (by decide) rfl rfl eh301 dX12_init_348 ?_
  refine xr_aload_n (r := (some a0)) C dX12_init_351 0 rfl ?_
  refine xr_sipush (v := 600) C dX12_init_352 rfl ?_
  obtain ⟨N303, kc306, ks307, b303, c303, z303, kk303, kl303, hm⟩ := hm
  refine xr_newa_int C 0 rfl wd_138 b303 c303 z303 kk303 kl303 dX12_init_355 (fun a304 h305 na303 eh303 => ?_)
  replace hm := hm a304 h305 na303 eh303
  obtain ⟨fs308, e308, f308, h309, eh308, hm⟩ := hm
  refine xr_putF (ci := 13) (v := .ref a304) C 54 (.array .int) tyX12 tyX12_ok nmX12 e308 f308 rfl inX12 (by decide) wd_699 rfl hnm rfl (by decide) rfl rfl eh308 dX12_init_357 ?_
  refine xr_aload_n (r := (some a0)) C dX12_init_360 0 rfl ?_
  refine xr_sipush (v := 600) C dX12_init_361 rfl ?_
  obtain ⟨N310, kc313, ks314, b310, c310, z310, kk310, kl310, hm⟩ := hm
  refine xr_newa_boolean C 2 rfl wd_705 b310 c310 z310 kk310 kl310 dX12_init_364 (fun a311 h312 na310 eh310 => ?_)
  replace hm := hm a311 h312 na310 eh310
  obtain ⟨fs315, e315, f315, h316, eh315, hm⟩ := hm
  refine xr_putF (ci := 13) (v := .ref a311) C 55 (.array .boolean) tyX12 tyX12_ok nmX12 e315 f315 rfl inX12 (by decide) wd_700 rfl hnm rfl (by decide) rfl rfl eh315 dX12_init_366 ?_
  refine xr_aload_n (r := (some a0)) C dX12_init_369 0 rfl ?_
  refine xr_sipush (v := 4200) C dX12_init_370 rfl ?_
  obtain ⟨N317, kc320, ks321, b317, c317, z317, kk317, kl317, hm⟩ := hm
  refine xr_newa_long C 1 rfl wd_61 b317 c317 z317 kk317 kl317 dX12_init_373 (fun a318 h319 na317 eh317 => ?_)
  replace hm := hm a318 h319 na317 eh317
  obtain ⟨fs322, e322, f322, h323, eh322, hm⟩ := hm
  refine xr_putF (ci := 13) (v := .ref a318) C 56 (.array .long) tyX12 tyX12_ok nmX12 e322 f322 rfl inX12 (by decide) wd_701 rfl hnm rfl (by decide) rfl rfl eh322 dX12_init_375 ?_
  refine xr_aload_n (r := (some a0)) C dX12_init_378 0 rfl ?_
  refine xr_sipush (v := 1800) C dX12_init_379 rfl ?_
  obtain ⟨N324, kc327, ks328, b324, c324, z324, kk324, kl324, hm⟩ := hm
  refine xr_newa_long C 1 rfl wd_61 b324 c324 z324 kk324 kl324 dX12_init_382 (fun a325 h326 na324 eh324 => ?_)
  replace hm := hm a325 h326 na324 eh324
  obtain ⟨fs329, e329, f329, h330, eh329, hm⟩ := hm
  refine xr_putF (ci := 13) (v := .ref a325) C 58 (.array .long) tyX12 tyX12_ok nmX12 e329 f329 rfl inX12 (by decide) wd_702 rfl hnm rfl (by decide) rfl rfl eh329 dX12_init_384 ?_
  refine xr_aload_n (r := (some a0)) C dX12_init_387 0 rfl ?_
  refine xr_sipush (v := 4200) C dX12_init_388 rfl ?_
  obtain ⟨N331, kc334, ks335, b331, c331, z331, kk331, kl331, hm⟩ := hm
  refine xr_newa_long C 1 rfl wd_61 b331 c331 z331 kk331 kl331 dX12_init_391 (fun a332 h333 na331 eh331 => ?_)
  replace hm := hm a332 h333 na331 eh331
  obtain ⟨fs336, e336, f336, h337, eh336, hm⟩ := hm
  refine xr_putF (ci := 13) (v := .ref a332) C 60 (.array .long) tyX12 tyX12_ok nmX12 e336 f336 rfl inX12 (by decide) wd_703 rfl hnm rfl (by decide) rfl rfl eh336 dX12_init_393 ?_
  refine xr_aload_n (r := (some a0)) C dX12_init_396 0 rfl ?_
  refine xr_sipush (v := 4200) C dX12_init_397 rfl ?_
  obtain ⟨N338, kc341, ks342, b338, c338, z338, kk338, kl338, hm⟩ := hm
  refine xr_newa_long C 1 rfl wd_61 b338 c338 z338 kk338 kl338 dX12_init_400 (fun a339 h340 na338 eh338 => ?_)
  replace hm := hm a339 h340 na338 eh338
  obtain ⟨fs343, e343, f343, h344, eh343, hm⟩ := hm
  refine xr_putF (ci := 13) (v := .ref a339) C 62 (.array .long) tyX12 tyX12_ok nmX12 e343 f343 rfl inX12 (by decide) wd_704 rfl hnm rfl (by decide) rfl rfl eh343 dX12_init_402 ?_
  exact xr_vreturn C hr hlk hm dX12_init_405
