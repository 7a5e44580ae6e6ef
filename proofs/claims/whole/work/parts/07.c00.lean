set_option maxRecDepth 100000 in
set_option maxHeartbeats 4000000 in
theorem c_X0_init {l : Launch} {D : va_G} {E : Ev} (a0 : Nat) (yp1 : Int64) (h : Hp) (kc ks : Nat) {Q : Hp → Prop} (hm : m_X0_init E a0 yp1 h kc ks Q) : XMet l yX0_init cX0_init 3 none 1 24 kc ks D E h [.ref a0, .long yp1] (fun A => va_Qv Q (XPost D A) A) := by
  refine xm_of (lv0 := [(0, .ref a0), (1, .long yp1)]) (by decide) (Nat.le_of_ble_eq_true rfl) rfl RX0 rfl (fun p e s m args below meth c A R hRm C hr hlk hnm => ?_)
  have hR : R.frames = 1 ∧ R.locals = 24 := by rw [hRm]; exact ⟨rfl, rfl⟩
  refine xr_aload_n (r := (some a0)) C dX0_init_0 0 rfl ?_
  refine xr_obj C wd_0 wd_1 wd_2 (by rw [hR.1]; decide) (by rw [hR.2]; exact Nat.le_of_ble_eq_true rfl) dX0_init_1 ?_
  refine xr_aload_n (r := (some a0)) C dX0_init_4 0 rfl ?_
  refine xr_lload_n C dX0_init_5 1 rfl ?_
  obtain ⟨fs2, e2, f2, h3, eh2, hm⟩ := hm
  refine xr_put (ci := 1) (v := .long yp1) C 0 .long tyX0 tyX0_ok nmX0 e2 f2 rfl inX0 (by decide) wd_3 rfl (by decide) rfl rfl eh2 dX0_init_6 ?_
  exact xr_vreturn C hr hlk hm dX0_init_9
set_option maxRecDepth 100000 in
set_option maxHeartbeats 4000000 in
theorem c_X5_init {l : Launch} {D : va_G} {E : Ev} (a0 : Nat) (h : Hp) (kc ks : Nat) {Q : Hp → Prop} (hm : m_X5_init E a0 h kc ks Q) : XMet l yX5_init cX5_init 1 none 1 24 kc ks D E h [.ref a0] (fun A => va_Qv Q (XPost D A) A) := by
  refine xm_of (lv0 := [(0, .ref a0)]) (by decide) (Nat.le_of_ble_eq_true rfl) rfl RX5 rfl (fun p e s m args below meth c A R hRm C hr hlk hnm => ?_)
  have hR : R.frames = 1 ∧ R.locals = 24 := by rw [hRm]; exact ⟨rfl, rfl⟩
  refine xr_aload_n (r := (some a0)) C dX5_init_0 0 rfl ?_
  refine xr_obj C wd_4 wd_1 wd_2 (by rw [hR.1]; decide) (by rw [hR.2]; exact Nat.le_of_ble_eq_true rfl) dX5_init_1 ?_
  exact xr_vreturn C hr hlk hm dX5_init_4
set_option maxRecDepth 100000 in
set_option maxHeartbeats 4000000 in
theorem c_X1_init {l : Launch} {D : va_G} {E : Ev} (a0 : Nat) (rp1 : Option Nat) (xp2 : Int32) (xp3 : Int32) (yp4 : Int64) (xp6 : Int32) (h : Hp) (kc ks : Nat) {Q : Hp → Prop} (hm : m_X1_init E a0 rp1 xp2 xp3 yp4 xp6 h kc ks Q) : XMet l yX1_init cX1_init 7 none 2 44 kc ks D E h [.ref a0, va_rf rp1, .int xp2, .int xp3, .long yp4, .int xp6] (fun A => va_Qv Q (XPost D A) A) := by
  refine xm_of (lv0 := [(0, .ref a0), (1, va_rf rp1), (2, .int xp2), (3, .int xp3), (4, .long yp4), (6, .int xp6)]) (by decide) (by simp [lg_sl, xv_cat, xv_ci, xv_cl, xv_cr, xv_cn]) (by simp [lv_args, xv_cat, xv_ci, xv_cl, xv_cr, xv_cn]) RX1 rfl (fun p e s m args below meth c A R hRm C hr hlk hnm => ?_)
  have hR : R.frames = 2 ∧ R.locals = 44 := by rw [hRm]; exact ⟨rfl, rfl⟩
  refine xr_aload_n (r := (some a0)) C dX1_init_0 0 rfl ?_
  refine xr_obj C wd_5 wd_1 wd_2 (by rw [hR.1]; decide) (by rw [hR.2]; exact Nat.le_of_ble_eq_true rfl) dX1_init_1 ?_
  refine xr_aload_n (r := (some a0)) C dX1_init_4 0 rfl ?_
  refine xr_iconst (v := 3) C dX1_init_5 rfl ?_
  obtain ⟨fs2, e2, f2, h3, eh2, hm⟩ := hm
  refine xr_put (ci := 2) (v := .int 3) C 6 .int tyX1 tyX1_ok nmX1 e2 f2 rfl inX1 (by decide) wd_6 rfl (by decide) rfl rfl eh2 dX1_init_6 ?_
  refine xr_aload_n (r := (some a0)) C dX1_init_9 0 rfl ?_
  refine xr_iconst (v := (-1)) C dX1_init_10 rfl ?_
  obtain ⟨fs4, e4, f4, h5, eh4, hm⟩ := hm
  refine xr_put (ci := 2) (v := .int (-1)) C 9 .int tyX1 tyX1_ok nmX1 e4 f4 rfl inX1 (by decide) wd_7 rfl (by decide) rfl rfl eh4 dX1_init_11 ?_
  refine xr_aload_n (r := (some a0)) C dX1_init_14 0 rfl ?_
  obtain ⟨kc9, ks10, kk6, kl6, hm⟩ := hm
  refine xr_new (ci := 6) (fs := [.int 0, .int 0, .long 0, .long 0, .int 0, .int 0, .int 0, .long 0]) C tyX5 tyX5_ok rfl inX5 wd_17 wd_18 wd_16 dvX5 kk6 kl6 dX1_init_15 (fun a7 h8 na6 eh6 => ?_)
  replace hm := hm a7 h8 na6 eh6
  refine xr_dup C dX1_init_18 rfl ?_
  refine xr_cINv (n := 0) (As := []) (st := [.ref a7, .ref a0]) C (c_X5_init a7 h8 0 0 hm) wn_0 wd_15 wd_16 wd_14 rfl (by decide +kernel) rfl (by rw [hR.1, hR.2]; decide) (Nat.zero_add _).symm (Nat.zero_add _).symm rfl (Nat.le_of_ble_eq_true rfl) dX1_init_19 (fun h13 hn => ?_)
  clear hm
  have hm := hn
  clear hn
  obtain ⟨fs14, e14, f14, h15, eh14, hm⟩ := hm
  refine xr_put (ci := 2) (v := .ref a7) C 11 (.object "CardPayments$Payment") tyX1 tyX1_ok nmX1 e14 f14 rfl inX1 (by decide) wd_8 rfl (by decide) rfl rfl eh14 dX1_init_22 ?_
  refine xr_aload_n (r := (some a0)) C dX1_init_25 0 rfl ?_
  refine xr_aload_n (r := rp1) C dX1_init_26 1 rfl ?_
  obtain ⟨fs16, e16, f16, h17, eh16, hm⟩ := hm
  refine xr_putF (ci := 2) (v := va_rf rp1) C 0 (.object "CardPayments$World") tyX1 tyX1_ok nmX1 e16 f16 rfl inX1 (by decide) wd_9 rfl hnm rfl (by decide) (xv_narO _ _) (xv_fitO _ _) eh16 dX1_init_27 ?_
  refine xr_aload_n (r := (some a0)) C dX1_init_30 0 rfl ?_
  refine xr_iload_n C dX1_init_31 2 rfl ?_
  obtain ⟨fs18, e18, f18, h19, eh18, hm⟩ := hm
  refine xr_putF (ci := 2) (v := .int xp2) C 1 .int tyX1 tyX1_ok nmX1 e18 f18 rfl inX1 (by decide) wd_10 rfl hnm rfl (by decide) rfl rfl eh18 dX1_init_32 ?_
  refine xr_aload_n (r := (some a0)) C dX1_init_35 0 rfl ?_
  refine xr_iload_n C dX1_init_36 3 rfl ?_
  obtain ⟨fs20, e20, f20, h21, eh20, hm⟩ := hm
  refine xr_putF (ci := 2) (v := .int xp3) C 2 .int tyX1 tyX1_ok nmX1 e20 f20 rfl inX1 (by decide) wd_11 rfl hnm rfl (by decide) rfl rfl eh20 dX1_init_37 ?_
  refine xr_aload_n (r := (some a0)) C dX1_init_40 0 rfl ?_
  refine xr_lload C dX1_init_41 4 rfl ?_
  obtain ⟨fs22, e22, f22, h23, eh22, hm⟩ := hm
  refine xr_putF (ci := 2) (v := .long yp4) C 3 .long tyX1 tyX1_ok nmX1 e22 f22 rfl inX1 (by decide) wd_12 rfl hnm rfl (by decide) rfl rfl eh22 dX1_init_43 ?_
  refine xr_aload_n (r := (some a0)) C dX1_init_46 0 rfl ?_
  refine xr_iload C dX1_init_47 5 rfl ?_
  obtain ⟨fs24, e24, f24, h25, eh24, hm⟩ := hm
  refine xr_putF (ci := 2) (v := .int xp6) C 4 .int tyX1 tyX1_ok nmX1 e24 f24 rfl inX1 (by decide) wd_13 rfl hnm rfl (by decide) rfl rfl eh24 dX1_init_49 ?_
  exact xr_vreturn C hr hlk hm dX1_init_52
set_option maxRecDepth 100000 in
set_option maxHeartbeats 4000000 in
theorem c_X1_losesPower {l : Launch} {D : va_G} {E : Ev} (a0 : Nat) (h : Hp) (kc ks : Nat) {Q : Int32 → Hp → Prop} (hm : m_X1_losesPower E a0 h kc ks Q) : XMet l yX1_losesPower cX1_losesPower 1 (some .boolean) 2 44 kc ks D E h [.ref a0] (fun A => va_Qi Q (XPost D A) A) := by
  refine xm_of (lv0 := [(0, .ref a0)]) (by decide) (Nat.le_of_ble_eq_true rfl) rfl RX1 rfl (fun p e s m args below meth c A R hRm C hr hlk hnm => ?_)
  have hR : R.frames = 2 ∧ R.locals = 44 := by rw [hRm]; exact ⟨rfl, rfl⟩
  refine xr_aload_n (r := (some a0)) C dX1_losesPower_0 0 rfl ?_
  obtain ⟨fs1, x2, e1, f1, hm⟩ := hm
  refine xr_get (ci := 2) C 9 e1 f1 rfl inX1 (by decide) wd_7 dX1_losesPower_1 ?_
  refine xr_iconst (v := (-1)) C dX1_losesPower_4 rfl ?_
  refine xr_icmp_ne (tgt := 10) C dX1_losesPower_5 (by decide) (fun q3 => ?_) (fun q3 => ?_)
  · replace hm := hm.2 q3
    refine xr_aload_n (r := (some a0)) C dX1_losesPower_10 0 rfl ?_
    refine xr_dup C dX1_losesPower_11 rfl ?_
    obtain ⟨fs4, x5, e4, f4, hm⟩ := hm
    refine xr_get (ci := 2) C 9 e4 f4 rfl inX1 (by decide) wd_7 dX1_losesPower_12 ?_
    refine xr_iconst (v := 1) C dX1_losesPower_15 rfl ?_
    refine xr_isub C dX1_losesPower_16 ?_
    obtain ⟨fs6, e6, f6, h7, eh6, hm⟩ := hm
    refine xr_put (ci := 2) (v := .int (x5 - 1)) C 9 .int tyX1 tyX1_ok nmX1 e6 f6 rfl inX1 (by decide) wd_7 rfl (by decide) rfl rfl eh6 dX1_losesPower_17 ?_
    refine xr_aload_n (r := (some a0)) C dX1_losesPower_20 0 rfl ?_
    obtain ⟨fs8, x9, e8, f8, hm⟩ := hm
    refine xr_get (ci := 2) C 9 e8 f8 rfl inX1 (by decide) wd_7 dX1_losesPower_21 ?_
    refine xr_iconst (v := (-1)) C dX1_losesPower_24 rfl ?_
    refine xr_icmp_eq (tgt := 30) C dX1_losesPower_25 (by decide) (fun q10 => ?_) (fun q10 => ?_)
    · replace hm := hm.1 q10
      refine xr_aload_n (r := (some a0)) C dX1_losesPower_30 0 rfl ?_
      refine xr_iconst (v := 0) C dX1_losesPower_31 rfl ?_
      obtain ⟨fs11, e11, f11, h12, eh11, hm⟩ := hm
      refine xr_put (ci := 2) (v := .int 0) C 8 .int tyX1 tyX1_ok nmX1 e11 f11 rfl inX1 (by decide) wd_19 rfl (by decide) rfl rfl eh11 dX1_losesPower_32 ?_
      refine xr_aload_n (r := (some a0)) C dX1_losesPower_35 0 rfl ?_
      refine xr_iconst (v := 0) C dX1_losesPower_36 rfl ?_
      obtain ⟨fs13, e13, f13, h14, eh13, hm⟩ := hm
      refine xr_put (ci := 2) (v := .int 0) C 10 .int tyX1 tyX1_ok nmX1 e13 f13 rfl inX1 (by decide) wd_20 rfl (by decide) rfl rfl eh13 dX1_losesPower_37 ?_
      refine xr_aload_n (r := (some a0)) C dX1_losesPower_40 0 rfl ?_
      obtain ⟨kc18, ks19, kk15, kl15, hm⟩ := hm
      refine xr_new (ci := 6) (fs := [.int 0, .int 0, .long 0, .long 0, .int 0, .int 0, .int 0, .long 0]) C tyX5 tyX5_ok rfl inX5 wd_17 wd_18 wd_16 dvX5 kk15 kl15 dX1_losesPower_41 (fun a16 h17 na15 eh15 => ?_)
      replace hm := hm a16 h17 na15 eh15
      refine xr_dup C dX1_losesPower_44 rfl ?_
      refine xr_cINv (n := 0) (As := []) (st := [.ref a16, .ref a0]) C (c_X5_init a16 h17 0 0 hm) wn_0 wd_15 wd_16 wd_14 rfl (by decide +kernel) rfl (by rw [hR.1, hR.2]; decide) (Nat.zero_add _).symm (Nat.zero_add _).symm rfl (Nat.le_of_ble_eq_true rfl) dX1_losesPower_45 (fun h22 hn => ?_)
      clear hm
      have hm := hn
      clear hn
      obtain ⟨fs23, e23, f23, h24, eh23, hm⟩ := hm
      refine xr_put (ci := 2) (v := .ref a16) C 11 (.object "CardPayments$Payment") tyX1 tyX1_ok nmX1 e23 f23 rfl inX1 (by decide) wd_8 rfl (by decide) rfl rfl eh23 dX1_losesPower_48 ?_
      refine xr_iconst (v := 1) C dX1_losesPower_51 rfl ?_
      exact xr_zreturn C hr hlk (Or.inr rfl) hm dX1_losesPower_52
    · replace hm := hm.2 q10
      refine xr_iconst (v := 0) C dX1_losesPower_28 rfl ?_
      exact xr_zreturn C hr hlk (Or.inl rfl) hm dX1_losesPower_29
  · replace hm := hm.1 q3
    refine xr_iconst (v := 0) C dX1_losesPower_8 rfl ?_
    exact xr_zreturn C hr hlk (Or.inl rfl) hm dX1_losesPower_9
set_option maxRecDepth 100000 in
set_option maxHeartbeats 4000000 in
theorem c_X7_key {l : Launch} {D : va_G} {E : Ev} (a0 : Nat) (xp1 : Int32) (xp2 : Int32) (h : Hp) (kc ks : Nat) {Q : Option Nat → Hp → Prop} (hm : m_X7_key E a0 xp1 xp2 h kc ks Q) : XMet l yX7_key cX7_key 3 (some (.object "CardPayments$Seals")) 0 0 kc ks D E h [.ref a0, .int xp1, .int xp2] (fun A => va_Qq Q (XPost D A) A) := by
  refine xm_of (lv0 := [(0, .ref a0), (1, .int xp1), (2, .int xp2)]) (by decide) (Nat.le_of_ble_eq_true rfl) rfl RX7 rfl (fun p e s m args below meth c A R hRm C hr hlk hnm => ?_)
  have hR : R.frames = 0 ∧ R.locals = 0 := by rw [hRm]; exact ⟨rfl, rfl⟩
  refine xr_aload_n (r := (some a0)) C dX7_key_0 0 rfl ?_
  refine xr_iload_n C dX7_key_1 1 rfl ?_
  obtain ⟨fs1, e1, f1, h2, eh1, hm⟩ := hm
  refine xr_put (ci := 8) (v := .int xp1) C 3 .int tyX7 tyX7_ok nmX7 e1 f1 rfl inX7 (by decide) wd_21 rfl (by decide) rfl rfl eh1 dX7_key_2 ?_
  refine xr_aload_n (r := (some a0)) C dX7_key_5 0 rfl ?_
  refine xr_iload_n C dX7_key_6 2 rfl ?_
  obtain ⟨fs3, e3, f3, h4, eh3, hm⟩ := hm
  refine xr_put (ci := 8) (v := .int xp2) C 4 .int tyX7 tyX7_ok nmX7 e3 f3 rfl inX7 (by decide) wd_22 rfl (by decide) rfl rfl eh3 dX7_key_7 ?_
  refine xr_aload_n (r := (some a0)) C dX7_key_10 0 rfl ?_
  refine xr_iconst (v := 0) C dX7_key_11 rfl ?_
  obtain ⟨fs5, e5, f5, h6, eh5, hm⟩ := hm
  refine xr_put (ci := 8) (v := .int 0) C 2 .int tyX7 tyX7_ok nmX7 e5 f5 rfl inX7 (by decide) wd_23 rfl (by decide) rfl rfl eh5 dX7_key_12 ?_
  refine xr_aload_n (r := (some a0)) C dX7_key_15 0 rfl ?_
  exact xr_areturn (r := (some a0)) C hr (Or.inl ⟨_, rfl⟩) hlk hm dX7_key_16
set_option maxRecDepth 100000 in
set_option maxHeartbeats 4000000 in
theorem c_X7_with {l : Launch} {D : va_G} {E : Ev} (a0 : Nat) (yp1 : Int64) (h : Hp) (kc ks : Nat) {Q : Option Nat → Hp → Prop} (hm : m_X7_with E a0 yp1 h kc ks Q) : XMet l yX7_with cX7_with 3 (some (.object "CardPayments$Seals")) 0 0 kc ks D E h [.ref a0, .long yp1] (fun A => va_Qq Q (XPost D A) A) := by
  refine xm_of (lv0 := [(0, .ref a0), (1, .long yp1)]) (by decide) (Nat.le_of_ble_eq_true rfl) rfl RX7 rfl (fun p e s m args below meth c A R hRm C hr hlk hnm => ?_)
  have hR : R.frames = 0 ∧ R.locals = 0 := by rw [hRm]; exact ⟨rfl, rfl⟩
  refine xr_aload_n (r := (some a0)) C dX7_with_0 0 rfl ?_
  obtain ⟨fs1, x2, e1, f1, hm⟩ := hm
  refine xr_get (ci := 8) C 2 e1 f1 rfl inX7 (by decide) wd_23 dX7_with_1 ?_
  refine xr_bipush (v := 8) C dX7_with_4 rfl ?_
  refine xr_icmp_ge (tgt := 29) C dX7_with_6 (by decide) (fun q3 => ?_) (fun q3 => ?_)
  · replace hm := hm.1 q3
    refine xr_aload_n (r := (some a0)) C dX7_with_29 0 rfl ?_
    exact xr_areturn (r := (some a0)) C hr (Or.inl ⟨_, rfl⟩) hlk hm dX7_with_30
  · replace hm := hm.2 q3
    refine xr_aload_n (r := (some a0)) C dX7_with_9 0 rfl ?_
    obtain ⟨fs4, r5, e4, f4, hm⟩ := hm
    refine xr_get (ci := 8) C 1 e4 f4 rfl inX7 (by decide) wd_24 dX7_with_10 ?_
    refine xr_aload_n (r := (some a0)) C dX7_with_13 0 rfl ?_
    obtain ⟨fs6, x7, e6, f6, hm⟩ := hm
    refine xr_get (ci := 8) C 2 e6 f6 rfl inX7 (by decide) wd_23 dX7_with_14 ?_
    refine xr_lload_n C dX7_with_17 1 rfl ?_
    obtain ⟨a9, rfl, hm⟩ := hm
    obtain ⟨N8, f8, e8, b8, h10, v8, hm⟩ := hm
    refine xr_last C 1 rfl e8 b8 v8 dX7_with_18 ?_
    refine xr_aload_n (r := (some a0)) C dX7_with_19 0 rfl ?_
    refine xr_dup C dX7_with_20 rfl ?_
    obtain ⟨fs11, x12, e11, f11, hm⟩ := hm
    refine xr_get (ci := 8) C 2 e11 f11 rfl inX7 (by decide) wd_23 dX7_with_21 ?_
    refine xr_iconst (v := 1) C dX7_with_24 rfl ?_
    refine xr_iadd C dX7_with_25 ?_
    obtain ⟨fs13, e13, f13, h14, eh13, hm⟩ := hm
    refine xr_put (ci := 8) (v := .int (x12 + 1)) C 2 .int tyX7 tyX7_ok nmX7 e13 f13 rfl inX7 (by decide) wd_23 rfl (by decide) rfl rfl eh13 dX7_with_26 ?_
    refine xr_aload_n (r := (some a0)) C dX7_with_29 0 rfl ?_
    exact xr_areturn (r := (some a0)) C hr (Or.inl ⟨_, rfl⟩) hlk hm dX7_with_30
set_option maxRecDepth 100000 in
set_option maxHeartbeats 4000000 in
theorem c_X7_ofCard {l : Launch} {D : va_G} {E : Ev} (a0 : Nat) (xp1 : Int32) (xp2 : Int32) (yp3 : Int64) (h : Hp) (kc ks : Nat) {Q : Option Nat → Hp → Prop} (hm : m_X7_ofCard E a0 xp1 xp2 yp3 h kc ks Q) : XMet l yX7_ofCard cX7_ofCard 5 (some (.object "CardPayments$Seals")) 1 22 kc ks D E h [.ref a0, .int xp1, .int xp2, .long yp3] (fun A => va_Qq Q (XPost D A) A) := by
  refine xm_of (lv0 := [(0, .ref a0), (1, .int xp1), (2, .int xp2), (3, .long yp3)]) (by decide) (Nat.le_of_ble_eq_true rfl) rfl RX7 rfl (fun p e s m args below meth c A R hRm C hr hlk hnm => ?_)
  have hR : R.frames = 1 ∧ R.locals = 22 := by rw [hRm]; exact ⟨rfl, rfl⟩
  refine xr_aload_n (r := (some a0)) C dX7_ofCard_0 0 rfl ?_
  refine xr_iconst (v := 0) C dX7_ofCard_1 rfl ?_
  refine xr_iload_n C dX7_ofCard_2 1 rfl ?_
  obtain ⟨⟨fs1, e1⟩, hm⟩ := hm
  refine xr_cVq (n := 2) (As := [.int 0, .int xp1]) (st := []) C (c_X7_key a0 0 xp1 h 0 0 hm) e1 rfl wd_31 wd_33 wd_34 wd_30 wd_32 (by decide +kernel) rfl (by rw [hR.1, hR.2]; decide) (Nat.zero_add _).symm (Nat.zero_add _).symm rfl (Nat.le_of_ble_eq_true rfl) dX7_ofCard_3 (fun r2 h3 hn => ?_)
  clear hm
  have hm := hn
  clear hn
  refine xr_ldc2 (v := 2) C dX7_ofCard_6 wd_25 ?_
  obtain ⟨a7, rfl, hm⟩ := hm
  obtain ⟨⟨fs4, e4⟩, hm⟩ := hm
  refine xr_cVq (n := 1) (As := [.long 2]) (st := []) C (c_X7_with a7 2 h3 0 0 hm) e4 rfl wd_26 wd_28 wd_29 wd_30 wd_27 (by decide +kernel) rfl (by rw [hR.1, hR.2]; decide) (Nat.zero_add _).symm (Nat.zero_add _).symm rfl (Nat.le_of_ble_eq_true rfl) dX7_ofCard_9 (fun r5 h6 hn => ?_)
  clear hm
  have hm := hn
  clear hn
  refine xr_iload_n C dX7_ofCard_12 1 rfl ?_
  refine xr_i2l (v := xp1.toInt64) C dX7_ofCard_13 rfl ?_
  obtain ⟨a11, rfl, hm⟩ := hm
  obtain ⟨⟨fs8, e8⟩, hm⟩ := hm
  refine xr_cVq (n := 1) (As := [.long xp1.toInt64]) (st := []) C (c_X7_with a11 xp1.toInt64 h6 0 0 hm) e8 rfl wd_26 wd_28 wd_29 wd_30 wd_27 (by decide +kernel) rfl (by rw [hR.1, hR.2]; decide) (Nat.zero_add _).symm (Nat.zero_add _).symm rfl (Nat.le_of_ble_eq_true rfl) dX7_ofCard_14 (fun r9 h10 hn => ?_)
  clear hm
  have hm := hn
  clear hn
  refine xr_iload_n C dX7_ofCard_17 2 rfl ?_
  refine xr_i2l (v := xp2.toInt64) C dX7_ofCard_18 rfl ?_
  obtain ⟨a15, rfl, hm⟩ := hm
  obtain ⟨⟨fs12, e12⟩, hm⟩ := hm
  refine xr_cVq (n := 1) (As := [.long xp2.toInt64]) (st := []) C (c_X7_with a15 xp2.toInt64 h10 0 0 hm) e12 rfl wd_26 wd_28 wd_29 wd_30 wd_27 (by decide +kernel) rfl (by rw [hR.1, hR.2]; decide) (Nat.zero_add _).symm (Nat.zero_add _).symm rfl (Nat.le_of_ble_eq_true rfl) dX7_ofCard_19 (fun r13 h14 hn => ?_)
  clear hm
  have hm := hn
  clear hn
  refine xr_lload_n C dX7_ofCard_22 3 rfl ?_
  obtain ⟨a19, rfl, hm⟩ := hm
  obtain ⟨⟨fs16, e16⟩, hm⟩ := hm
  refine xr_cVq (n := 1) (As := [.long yp3]) (st := []) C (c_X7_with a19 yp3 h14 0 0 hm) e16 rfl wd_26 wd_28 wd_29 wd_30 wd_27 (by decide +kernel) rfl (by rw [hR.1, hR.2]; decide) (Nat.zero_add _).symm (Nat.zero_add _).symm rfl (Nat.le_of_ble_eq_true rfl) dX7_ofCard_23 (fun r17 h18 hn => ?_)
  clear hm
  have hm := hn
  clear hn
  exact xr_areturn (r := r17) C hr (Or.inl ⟨_, rfl⟩) hlk hm dX7_ofCard_26
set_option maxRecDepth 100000 in
set_option maxHeartbeats 4000000 in
theorem c_Jx4a65c_size_8abf5 {l : Launch} {D : va_G} {E : Ev} (a0 : Nat) (h : Hp) (kc ks : Nat) {Q : Int32 → Hp → Prop} (hm : m_Jx4a65c_size_8abf5 E a0 h kc ks Q) : XMet l yJx4a65c_size_8abf5 cJx4a65c_size_8abf5 1 (some .int) 0 0 kc ks D E h [.ref a0] (fun A => va_Qi Q (XPost D A) A) := by
  refine xm_of (lv0 := [(0, .ref a0)]) (by decide) (Nat.le_of_ble_eq_true rfl) rfl RJx4a65c rfl (fun p e s m args below meth c A R hRm C hr hlk hnm => ?_)
  have hR : R.frames = 0 ∧ R.locals = 0 := by rw [hRm]; exact ⟨rfl, rfl⟩
  refine xr_aload_n (r := (some a0)) C dJx4a65c_size_8abf5_0 0 rfl ?_
  obtain ⟨fs1, x2, e1, f1, hm⟩ := hm
  refine xr_get (ci := 0) C 2 e1 f1 rfl inJx4a65c (by decide) wd_35 dJx4a65c_size_8abf5_1 ?_
  exact xr_ireturn C hr hlk hm dJx4a65c_size_8abf5_4
set_option maxRecDepth 100000 in
set_option maxHeartbeats 4000000 in
theorem k_J3_checkIndex_8e157_L9 {p : Program} {l : Launch} {e : Env} {R : Room} {s : State} {m : MethodId} {args : Array Value} {below : List Frame} {meth : Method} {c : Code} {D : va_G} {E : Ev} {A : Nat → Prop} {KC KS : Nat} (C : XC p R s m args c D E A 3 RJ3 cJ3_checkIndex_8e157 KC KS) (hr : meth.sig.returnType = (some .int)) (hlk : meth.locks = false) (hnm : meth.name = "checkIndex") (hR : R.frames = 0 ∧ R.locals = 0) {Q : Int32 → Hp → Prop} : ∀ (xv0 : Int32) (xv1 : Int32) (rv2 : Option Nat) (h : Hp) (kc ks : Nat), m_J3_checkIndex_8e157_L9 E xv0 xv1 rv2 h kc ks Q → XW p l e R s m args below meth c (MQ below (va_Qi Q (XPost D A) A) args s KC KS A) D A KC KS 3 h kc ks [(0, .int xv0), (1, .int xv1), (2, va_rf rv2)] 9 [] := by
  intro xv0 xv1 rv2 h kc ks hm
  refine xr_aload_n (r := rv2) C dJ3_checkIndex_8e157_9 2 rfl ?_
  refine xr_iload_n C dJ3_checkIndex_8e157_10 0 rfl ?_
  refine xr_iload_n C dJ3_checkIndex_8e157_11 1 rfl ?_
  exact False.elim hm
set_option maxRecDepth 100000 in
set_option maxHeartbeats 4000000 in
theorem c_J3_checkIndex_8e157 {l : Launch} {D : va_G} {E : Ev} (xp0 : Int32) (xp1 : Int32) (rp2 : Option Nat) (h : Hp) (kc ks : Nat) {Q : Int32 → Hp → Prop} (hm : m_J3_checkIndex_8e157 E xp0 xp1 rp2 h kc ks Q) : XMet l yJ3_checkIndex_8e157 cJ3_checkIndex_8e157 3 (some .int) 0 0 kc ks D E h [.int xp0, .int xp1, va_rf rp2] (fun A => va_Qi Q (XPost D A) A) := by
  refine xm_of (lv0 := [(0, .int xp0), (1, .int xp1), (2, va_rf rp2)]) (by decide) (by simp [lg_sl, xv_cat, xv_ci, xv_cl, xv_cr, xv_cn]) (by simp [lv_args, xv_cat, xv_ci, xv_cl, xv_cr, xv_cn]) RJ3 rfl (fun p e s m args below meth c A R hRm C hr hlk hnm => ?_)
  have hR : R.frames = 0 ∧ R.locals = 0 := by rw [hRm]; exact ⟨rfl, rfl⟩
  refine xr_iload_n C dJ3_checkIndex_8e157_0 0 rfl ?_
  refine xr_if_lt (tgt := 9) C dJ3_checkIndex_8e157_1 (by decide) (fun q1 => ?_) (fun q1 => ?_)
  · replace hm := hm.1 q1
    exact k_J3_checkIndex_8e157_L9 C hr hlk hnm hR xp0 xp1 rp2 _ _ _ hm
  · replace hm := hm.2 q1
    refine xr_iload_n C dJ3_checkIndex_8e157_4 0 rfl ?_
    refine xr_iload_n C dJ3_checkIndex_8e157_5 1 rfl ?_
    refine xr_icmp_lt (tgt := 16) C dJ3_checkIndex_8e157_6 (by decide) (fun q2 => ?_) (fun q2 => ?_)
    · replace hm := hm.1 q2
      refine xr_iload_n C dJ3_checkIndex_8e157_16 0 rfl ?_
      exact xr_ireturn C hr hlk hm dJ3_checkIndex_8e157_17
    · replace hm := hm.2 q2
      exact k_J3_checkIndex_8e157_L9 C hr hlk hnm hR xp0 xp1 rp2 _ _ _ hm
set_option maxRecDepth 100000 in
set_option maxHeartbeats 4000000 in
theorem c_J15_checkIndex_7cf53 {l : Launch} {D : va_G} {E : Ev} (xp0 : Int32) (xp1 : Int32) (h : Hp) (kc ks : Nat) {Q : Int32 → Hp → Prop} (hm : m_J15_checkIndex_7cf53 E xp0 xp1 h kc ks Q) : XMet l yJ15_checkIndex_7cf53 cJ15_checkIndex_7cf53 2 (some .int) 1 22 kc ks D E h [.int xp0, .int xp1] (fun A => va_Qi Q (XPost D A) A) := by
  refine xm_of (lv0 := [(0, .int xp0), (1, .int xp1)]) (by decide) (Nat.le_of_ble_eq_true rfl) rfl RJ15 rfl (fun p e s m args below meth c A R hRm C hr hlk hnm => ?_)
  have hR : R.frames = 1 ∧ R.locals = 22 := by rw [hRm]; exact ⟨rfl, rfl⟩
  refine xr_iload_n C dJ15_checkIndex_7cf53_0 0 rfl ?_
  refine xr_iload_n C dJ15_checkIndex_7cf53_1 1 rfl ?_
  refine xr_null C dJ15_checkIndex_7cf53_2 ?_
  refine xr_cSi (n := 3) (As := [.int xp0, .int xp1, .null]) (st := []) C (c_J3_checkIndex_8e157 xp0 xp1 none h 0 0 hm) wd_36 wd_38 wd_39 wd_37 (by decide +kernel) rfl (by rw [hR.1, hR.2]; decide) (Nat.zero_add _).symm (Nat.zero_add _).symm rfl (Nat.le_of_ble_eq_true rfl) dJ15_checkIndex_7cf53_3 (fun x2 h3 hn => ?_)
  clear hm
  have hm := hn
  clear hn
  exact xr_ireturn C hr hlk hm dJ15_checkIndex_7cf53_6
set_option maxRecDepth 100000 in
set_option maxHeartbeats 4000000 in
theorem c_Jx4a65c_elementData_915e3 {l : Launch} {D : va_G} {E : Ev} (a0 : Nat) (xp1 : Int32) (h : Hp) (kc ks : Nat) {Q : Option Nat → Hp → Prop} (hm : m_Jx4a65c_elementData_915e3 E a0 xp1 h kc ks Q) : XMet l yJx4a65c_elementData_915e3 cJx4a65c_elementData_915e3 2 (some (.object "java/lang/Object")) 0 0 kc ks D E h [.ref a0, .int xp1] (fun A => va_Qq Q (XPost D A) A) := by
  refine xm_of (lv0 := [(0, .ref a0), (1, .int xp1)]) (by decide) (Nat.le_of_ble_eq_true rfl) rfl RJx4a65c rfl (fun p e s m args below meth c A R hRm C hr hlk hnm => ?_)
  have hR : R.frames = 0 ∧ R.locals = 0 := by rw [hRm]; exact ⟨rfl, rfl⟩
  refine xr_aload_n (r := (some a0)) C dJx4a65c_elementData_915e3_0 0 rfl ?_
  obtain ⟨fs1, r2, e1, f1, hm⟩ := hm
  refine xr_get (ci := 0) C 1 e1 f1 rfl inJx4a65c (by decide) wd_40 dJx4a65c_elementData_915e3_1 ?_
  refine xr_iload_n C dJx4a65c_elementData_915e3_4 1 rfl ?_
  obtain ⟨a4, rfl, hm⟩ := hm
  obtain ⟨N3, f3, r5, e3, b3, v3, hm⟩ := hm
  refine xr_aald C 4 rfl e3 b3 v3 dJx4a65c_elementData_915e3_5 ?_
  exact xr_areturn (r := r5) C hr (Or.inl ⟨_, rfl⟩) hlk hm dJx4a65c_elementData_915e3_6
set_option maxRecDepth 100000 in
set_option maxHeartbeats 4000000 in
theorem c_Jx4a65c_get_915e3 {l : Launch} {D : va_G} {E : Ev} (a0 : Nat) (xp1 : Int32) (h : Hp) (kc ks : Nat) {Q : Option Nat → Hp → Prop} (hm : m_Jx4a65c_get_915e3 E a0 xp1 h kc ks Q) : XMet l yJx4a65c_get_915e3 cJx4a65c_get_915e3 2 (some (.object "java/lang/Object")) 2 43 kc ks D E h [.ref a0, .int xp1] (fun A => va_Qq Q (XPost D A) A) := by
  refine xm_of (lv0 := [(0, .ref a0), (1, .int xp1)]) (by decide) (Nat.le_of_ble_eq_true rfl) rfl RJx4a65c rfl (fun p e s m args below meth c A R hRm C hr hlk hnm => ?_)
  have hR : R.frames = 2 ∧ R.locals = 43 := by rw [hRm]; exact ⟨rfl, rfl⟩
  refine xr_iload_n C dJx4a65c_get_915e3_0 1 rfl ?_
  refine xr_aload_n (r := (some a0)) C dJx4a65c_get_915e3_1 0 rfl ?_
  obtain ⟨fs1, x2, e1, f1, hm⟩ := hm
  refine xr_get (ci := 0) C 2 e1 f1 rfl inJx4a65c (by decide) wd_35 dJx4a65c_get_915e3_2 ?_
  refine xr_cSi (n := 2) (As := [.int xp1, .int x2]) (st := []) C (c_J15_checkIndex_7cf53 xp1 x2 h 0 0 hm) wd_46 wd_48 wd_49 wd_47 (by decide +kernel) rfl (by rw [hR.1, hR.2]; decide) (Nat.zero_add _).symm (Nat.zero_add _).symm rfl (Nat.le_of_ble_eq_true rfl) dJx4a65c_get_915e3_5 (fun x4 h5 hn => ?_)
  clear hm
  have hm := hn
  clear hn
  refine xr_pop C dJx4a65c_get_915e3_8 rfl ?_
  refine xr_aload_n (r := (some a0)) C dJx4a65c_get_915e3_9 0 rfl ?_
  refine xr_iload_n C dJx4a65c_get_915e3_10 1 rfl ?_
  obtain ⟨⟨fs6, e6⟩, hm⟩ := hm
  refine xr_cVq (n := 1) (As := [.int xp1]) (st := []) C (c_Jx4a65c_elementData_915e3 a0 xp1 h5 0 0 hm) e6 rfl wd_41 wd_43 wd_44 wd_45 wd_42 (by decide +kernel) rfl (by rw [hR.1, hR.2]; decide) (Nat.zero_add _).symm (Nat.zero_add _).symm rfl (Nat.le_of_ble_eq_true rfl) dJx4a65c_get_915e3_11 (fun r7 h8 hn => ?_)
  clear hm
  have hm := hn
  clear hn
  exact xr_areturn (r := r7) C hr (Or.inl ⟨_, rfl⟩) hlk hm dJx4a65c_get_915e3_14
set_option maxRecDepth 100000 in
set_option maxHeartbeats 4000000 in
theorem k_X7_isTheirs_L38 {p : Program} {l : Launch} {e : Env} {R : Room} {s : State} {m : MethodId} {args : Array Value} {below : List Frame} {meth : Method} {c : Code} {D : va_G} {E : Ev} {A : Nat → Prop} {KC KS : Nat} (C : XC p R s m args c D E A 3 RX7 cX7_isTheirs KC KS) (hr : meth.sig.returnType = (some .boolean)) (hlk : meth.locks = false) (hnm : meth.name = "isTheirs") (hR : R.frames = 0 ∧ R.locals = 0) {Q : Int32 → Hp → Prop} : ∀ (n : Nat) (a0 : Nat) (rv1 : Option Nat) (xv2 : Int32) (h : Hp) (kc ks : Nat), m_X7_isTheirs_L38 n E a0 rv1 xv2 h kc ks Q → XW p l e R s m args below meth c (MQ below (va_Qi Q (XPost D A) A) args s KC KS A) D A KC KS 3 h kc ks [(0, .ref a0), (1, va_rf rv1), (2, .int xv2)] 38 [] := by
  intro n
  induction n with
  | zero => intro a0 rv1 xv2 h kc ks hm; exact False.elim hm
  | succ n ih =>
    intro a0 rv1 xv2 h kc ks hm
    refine xr_iload_n C dX7_isTheirs_38 2 rfl ?_
    refine xr_aload_n (r := (some a0)) C dX7_isTheirs_39 0 rfl ?_
    obtain ⟨fs21, x22, e21, f21, hm⟩ := hm
    refine xr_get (ci := 8) C 2 e21 f21 rfl inX7 (by decide) wd_23 dX7_isTheirs_40 ?_
    refine xr_icmp_ge (tgt := 70) C dX7_isTheirs_43 (by decide) (fun q23 => ?_) (fun q23 => ?_)
    · replace hm := hm.1 q23
      refine xr_iconst (v := 1) C dX7_isTheirs_70 rfl ?_
      exact xr_zreturn C hr hlk (Or.inr rfl) hm dX7_isTheirs_71
    · replace hm := hm.2 q23
      refine xr_aload_n (r := rv1) C dX7_isTheirs_46 1 rfl ?_
      obtain ⟨a25, rfl, hm⟩ := hm
      obtain ⟨fs24, r26, e24, f24, hm⟩ := hm
      refine xr_get (ci := 7) C 2 e24 f24 rfl inX6 (by decide) wd_52 dX7_isTheirs_47 ?_
      refine xr_iload_n C dX7_isTheirs_50 2 rfl ?_
      obtain ⟨a28, rfl, hm⟩ := hm
      obtain ⟨N27, f27, y29, e27, b27, v27, hm⟩ := hm
      refine xr_lald C 1 rfl e27 b27 v27 dX7_isTheirs_51 ?_
      refine xr_aload_n (r := (some a0)) C dX7_isTheirs_52 0 rfl ?_
      obtain ⟨fs30, r31, e30, f30, hm⟩ := hm
      refine xr_get (ci := 8) C 1 e30 f30 rfl inX7 (by decide) wd_24 dX7_isTheirs_53 ?_
      refine xr_iload_n C dX7_isTheirs_56 2 rfl ?_
      obtain ⟨a33, rfl, hm⟩ := hm
      obtain ⟨N32, f32, y34, e32, b32, v32, hm⟩ := hm
      refine xr_lald C 1 rfl e32 b32 v32 dX7_isTheirs_57 ?_
      refine xr_lcmp C dX7_isTheirs_58 ?_
      refine xr_if_eq (tgt := 64) C dX7_isTheirs_59 (by decide) (fun q35 => ?_) (fun q35 => ?_)
      · replace hm := hm.1 q35
        refine xr_iinc (j := 2) (v := xv2 + 1) (lv' := [(2, .int (xv2 + 1)), (0, .ref a0), (1, .ref a25)]) C dX7_isTheirs_64 rfl rfl (by decide) rfl ?_
        refine xr_goto (tgt := 38) C dX7_isTheirs_67 (by decide) ?_
        refine xr_sub [1, 2, 0] rfl ?_
        exact ih a0 (some a25) (xv2 + 1) _ _ _ hm
      · replace hm := hm.2 q35
        refine xr_iconst (v := 0) C dX7_isTheirs_62 rfl ?_
        exact xr_zreturn C hr hlk (Or.inl rfl) hm dX7_isTheirs_63
set_option maxRecDepth 100000 in
set_option maxHeartbeats 4000000 in
theorem c_X7_isTheirs {l : Launch} {D : va_G} {E : Ev} (a0 : Nat) (rp1 : Option Nat) (h : Hp) (kc ks : Nat) {Q : Int32 → Hp → Prop} (hm : m_X7_isTheirs E a0 rp1 h kc ks Q) : XMet l yX7_isTheirs cX7_isTheirs 3 (some .boolean) 0 0 kc ks D E h [.ref a0, va_rf rp1] (fun A => va_Qi Q (XPost D A) A) := by
  refine xm_of (lv0 := [(0, .ref a0), (1, va_rf rp1)]) (by decide) (by simp [lg_sl, xv_cat, xv_ci, xv_cl, xv_cr, xv_cn]) (by simp [lv_args, xv_cat, xv_ci, xv_cl, xv_cr, xv_cn]) RX7 rfl (fun p e s m args below meth c A R hRm C hr hlk hnm => ?_)
  have hR : R.frames = 0 ∧ R.locals = 0 := by rw [hRm]; exact ⟨rfl, rfl⟩
  refine xr_aload_n (r := rp1) C dX7_isTheirs_0 1 rfl ?_
  obtain ⟨a2, rfl, hm⟩ := hm
  obtain ⟨fs1, x3, e1, f1, hm⟩ := hm
  refine xr_get (ci := 7) C 0 e1 f1 rfl inX6 (by decide) wd_50 dX7_isTheirs_1 ?_
  refine xr_aload_n (r := (some a0)) C dX7_isTheirs_4 0 rfl ?_
  obtain ⟨fs4, x5, e4, f4, hm⟩ := hm
  refine xr_get (ci := 8) C 3 e4 f4 rfl inX7 (by decide) wd_21 dX7_isTheirs_5 ?_
  refine xr_icmp_ne (tgt := 34) C dX7_isTheirs_8 (by decide) (fun q6 => ?_) (fun q6 => ?_)
  · replace hm := hm.2 q6
    refine xr_iconst (v := 0) C dX7_isTheirs_34 rfl ?_
    exact xr_zreturn C hr hlk (Or.inl rfl) hm dX7_isTheirs_35
  · replace hm := hm.1 q6
    refine xr_aload_n (r := (some a2)) C dX7_isTheirs_11 1 rfl ?_
    obtain ⟨fs7, x8, e7, f7, hm⟩ := hm
    refine xr_get (ci := 7) C 1 e7 f7 rfl inX6 (by decide) wd_51 dX7_isTheirs_12 ?_
    refine xr_aload_n (r := (some a0)) C dX7_isTheirs_15 0 rfl ?_
    obtain ⟨fs9, x10, e9, f9, hm⟩ := hm
    refine xr_get (ci := 8) C 4 e9 f9 rfl inX7 (by decide) wd_22 dX7_isTheirs_16 ?_
    refine xr_icmp_ne (tgt := 34) C dX7_isTheirs_19 (by decide) (fun q11 => ?_) (fun q11 => ?_)
    · replace hm := hm.2 q11
      refine xr_iconst (v := 0) C dX7_isTheirs_34 rfl ?_
      exact xr_zreturn C hr hlk (Or.inl rfl) hm dX7_isTheirs_35
    · replace hm := hm.1 q11
      refine xr_aload_n (r := (some a2)) C dX7_isTheirs_22 1 rfl ?_
      obtain ⟨fs12, r13, e12, f12, hm⟩ := hm
      refine xr_get (ci := 7) C 2 e12 f12 rfl inX6 (by decide) wd_52 dX7_isTheirs_23 ?_
      obtain ⟨a15, rfl, hm⟩ := hm
      obtain ⟨x16, e14, hm⟩ := hm
      refine xr_alenX C e14 dX7_isTheirs_26 ?_
      refine xr_aload_n (r := (some a0)) C dX7_isTheirs_27 0 rfl ?_
      obtain ⟨fs17, x18, e17, f17, hm⟩ := hm
      refine xr_get (ci := 8) C 2 e17 f17 rfl inX7 (by decide) wd_23 dX7_isTheirs_28 ?_
      refine xr_icmp_eq (tgt := 36) C dX7_isTheirs_31 (by decide) (fun q19 => ?_) (fun q19 => ?_)
      · replace hm := hm.1 q19
        refine xr_iconst (v := 0) C dX7_isTheirs_36 rfl ?_
        refine xr_istore_n (lv' := [(2, .int 0), (0, .ref a0), (1, .ref a2)]) C dX7_isTheirs_37 (by decide) rfl ?_
        obtain ⟨n20, hm⟩ := hm
        refine xr_sub [1, 2, 0] rfl ?_
        exact k_X7_isTheirs_L38 C hr hlk hnm hR n20 a0 (some a2) 0 _ _ _ hm
      · replace hm := hm.2 q19
        refine xr_iconst (v := 0) C dX7_isTheirs_34 rfl ?_
        exact xr_zreturn C hr hlk (Or.inl rfl) hm dX7_isTheirs_35
set_option maxRecDepth 100000 in
set_option maxHeartbeats 4000000 in
theorem c_J7_copyOf_c38d5 {l : Launch} {D : va_G} {E : Ev} (rp0 : Option Nat) (xp1 : Int32) (h : Hp) (kc ks : Nat) {Q : Option Nat → Hp → Prop} (hm : m_J7_copyOf_c38d5 E rp0 xp1 h kc ks Q) : XMet l yJ7_copyOf_c38d5 cJ7_copyOf_c38d5 3 (some (.array .long)) 1 60 kc ks D E h [va_rf rp0, .int xp1] (fun A => va_Qq Q (XPost D A) A) := by
  refine xm_of (lv0 := [(0, va_rf rp0), (1, .int xp1)]) (by decide) (by simp [lg_sl, xv_cat, xv_ci, xv_cl, xv_cr, xv_cn]) (by simp [lv_args, xv_cat, xv_ci, xv_cl, xv_cr, xv_cn]) RJ7 rfl (fun p e s m args below meth c A R hRm C hr hlk hnm => ?_)
  have hR : R.frames = 1 ∧ R.locals = 60 := by rw [hRm]; exact ⟨rfl, rfl⟩
  refine xr_iload_n C dJ7_copyOf_c38d5_0 1 rfl ?_
  refine xr_aload_n (r := rp0) C dJ7_copyOf_c38d5_1 0 rfl ?_
  obtain ⟨a2, rfl, hm⟩ := hm
  obtain ⟨x3, e1, hm⟩ := hm
  refine xr_alenX C e1 dJ7_copyOf_c38d5_2 ?_
  refine xr_icmp_ne (tgt := 14) C dJ7_copyOf_c38d5_3 (by decide) (fun q4 => ?_) (fun q4 => ?_)
  · replace hm := hm.2 q4
    refine xr_iload_n C dJ7_copyOf_c38d5_14 1 rfl ?_
    obtain ⟨N5, kc8, ks9, b5, c5, z5, kk5, kl5, hm⟩ := hm
    refine xr_newa_long C 1 rfl wd_61 b5 c5 z5 kk5 kl5 dJ7_copyOf_c38d5_15 (fun a6 h7 na5 eh5 => ?_)
    replace hm := hm a6 h7 na5 eh5
    refine xr_astore_n (r := (some a6)) (lv' := [(2, .ref a6), (0, .ref a2), (1, .int xp1)]) C dJ7_copyOf_c38d5_17 (by decide) rfl ?_
    refine xr_aload_n (r := (some a2)) C dJ7_copyOf_c38d5_18 1 rfl ?_
    refine xr_iconst (v := 0) C dJ7_copyOf_c38d5_19 rfl ?_
    refine xr_aload_n (r := (some a6)) C dJ7_copyOf_c38d5_20 0 rfl ?_
    refine xr_iconst (v := 0) C dJ7_copyOf_c38d5_21 rfl ?_
    refine xr_aload_n (r := (some a2)) C dJ7_copyOf_c38d5_22 1 rfl ?_
    obtain ⟨x11, e10, hm⟩ := hm
    refine xr_alenX C e10 dJ7_copyOf_c38d5_23 ?_
    refine xr_iload_n C dJ7_copyOf_c38d5_24 2 rfl ?_
    refine xr_mmin C wd_58 wd_59 wd_60 wd_57 (by rw [hR.1]; decide) (by rw [hR.2]; exact Nat.le_of_ble_eq_true rfl) dJ7_copyOf_c38d5_25 (fun x13 e14 => ?_)
    replace hm := hm x13 e14
    refine xr_cpL C 1 rfl wd_53 wd_54 wd_55 wd_56 hm (by rw [hR.1]; decide) (by rw [hR.2]; exact Nat.le_of_ble_eq_true rfl) dJ7_copyOf_c38d5_28 (fun h16 hn => ?_)
    clear hm
    have hm := hn
    clear hn
    refine xr_aload_n (r := (some a6)) C dJ7_copyOf_c38d5_31 0 rfl ?_
    exact xr_areturn (r := (some a6)) C hr (Or.inr ⟨_, rfl⟩) hlk hm dJ7_copyOf_c38d5_32
  · replace hm := hm.1 q4
    refine xr_aload_n (r := (some a2)) C dJ7_copyOf_c38d5_6 0 rfl ?_
    obtain ⟨N17, f17, kc20, ks21, e17, kk17, kl17, hm⟩ := hm
    refine xr_clL C e17 wd_63 wd_64 wd_65 wd_66 wd_67 wn_1 kk17 kl17 (by rw [hR.1]; decide) (by rw [hR.2]; exact Nat.le_of_ble_eq_true rfl) dJ7_copyOf_c38d5_7 (fun a18 h19 na17 eh17 => ?_)
    replace hm := hm a18 h19 na17 eh17
    obtain ⟨⟨x22, e22⟩, hm⟩ := hm
    refine xr_castA C 1 rfl e22 (fun _ h9 => va_nm_long h9) wd_62 dJ7_copyOf_c38d5_10 ?_
    exact xr_areturn (r := (some a18)) C hr (Or.inr ⟨_, rfl⟩) hlk hm dJ7_copyOf_c38d5_13
set_option maxRecDepth 100000 in
set_option maxHeartbeats 4000000 in
theorem c_X6_init {l : Launch} {D : va_G} {E : Ev} (a0 : Nat) (xp1 : Int32) (xp2 : Int32) (rp3 : Option Nat) (h : Hp) (kc ks : Nat) {Q : Hp → Prop} (hm : m_X6_init E a0 xp1 xp2 rp3 h kc ks Q) : XMet l yX6_init cX6_init 4 none 1 24 kc ks D E h [.ref a0, .int xp1, .int xp2, va_rf rp3] (fun A => va_Qv Q (XPost D A) A) := by
  refine xm_of (lv0 := [(0, .ref a0), (1, .int xp1), (2, .int xp2), (3, va_rf rp3)]) (by decide) (by simp [lg_sl, xv_cat, xv_ci, xv_cl, xv_cr, xv_cn]) (by simp [lv_args, xv_cat, xv_ci, xv_cl, xv_cr, xv_cn]) RX6 rfl (fun p e s m args below meth c A R hRm C hr hlk hnm => ?_)
  have hR : R.frames = 1 ∧ R.locals = 24 := by rw [hRm]; exact ⟨rfl, rfl⟩
  refine xr_aload_n (r := (some a0)) C dX6_init_0 0 rfl ?_
  refine xr_obj C wd_68 wd_1 wd_2 (by rw [hR.1]; decide) (by rw [hR.2]; exact Nat.le_of_ble_eq_true rfl) dX6_init_1 ?_
  refine xr_aload_n (r := (some a0)) C dX6_init_4 0 rfl ?_
  refine xr_iload_n C dX6_init_5 1 rfl ?_
  obtain ⟨fs2, e2, f2, h3, eh2, hm⟩ := hm
  refine xr_putF (ci := 7) (v := .int xp1) C 0 .int tyX6 tyX6_ok nmX6 e2 f2 rfl inX6 (by decide) wd_69 rfl hnm rfl (by decide) rfl rfl eh2 dX6_init_6 ?_
  refine xr_aload_n (r := (some a0)) C dX6_init_9 0 rfl ?_
  refine xr_iload_n C dX6_init_10 2 rfl ?_
  obtain ⟨fs4, e4, f4, h5, eh4, hm⟩ := hm
  refine xr_putF (ci := 7) (v := .int xp2) C 1 .int tyX6 tyX6_ok nmX6 e4 f4 rfl inX6 (by decide) wd_70 rfl hnm rfl (by decide) rfl rfl eh4 dX6_init_11 ?_
  refine xr_aload_n (r := (some a0)) C dX6_init_14 0 rfl ?_
  refine xr_aload_n (r := rp3) C dX6_init_15 3 rfl ?_
  obtain ⟨fs6, e6, f6, h7, eh6, hm⟩ := hm
  refine xr_putF (ci := 7) (v := va_rf rp3) C 2 (.array .long) tyX6 tyX6_ok nmX6 e6 f6 rfl inX6 (by decide) wd_71 rfl hnm rfl (by decide) (xv_narA _ _) (xv_fitA _ _) eh6 dX6_init_16 ?_
  exact xr_vreturn C hr hlk hm dX6_init_19
set_option maxRecDepth 100000 in
set_option maxHeartbeats 4000000 in
theorem k_J8_newLength_cabcc_L21 {p : Program} {l : Launch} {e : Env} {R : Room} {s : State} {m : MethodId} {args : Array Value} {below : List Frame} {meth : Method} {c : Code} {D : va_G} {E : Ev} {A : Nat → Prop} {KC KS : Nat} (C : XC p R s m args c D E A 4 RJ8 cJ8_newLength_cabcc KC KS) (hr : meth.sig.returnType = (some .int)) (hlk : meth.locks = false) (hnm : meth.name = "newLength") (hR : R.frames = 1 ∧ R.locals = 60) {Q : Int32 → Hp → Prop} : ∀ (xv0 : Int32) (xv1 : Int32) (h : Hp) (kc ks : Nat), m_J8_newLength_cabcc_L21 E xv0 xv1 h kc ks Q → XW p l e R s m args below meth c (MQ below (va_Qi Q (XPost D A) A) args s KC KS A) D A KC KS 4 h kc ks [(0, .int xv0), (1, .int xv1)] 21 [] := by
  intro xv0 xv1 h kc ks hm
  refine xr_iload_n C dJ8_newLength_cabcc_21 0 rfl ?_
  refine xr_iload_n C dJ8_newLength_cabcc_22 1 rfl ?_
  exact False.elim hm
set_option maxRecDepth 100000 in
set_option maxHeartbeats 4000000 in
theorem c_J8_newLength_cabcc {l : Launch} {D : va_G} {E : Ev} (xp0 : Int32) (xp1 : Int32) (xp2 : Int32) (h : Hp) (kc ks : Nat) {Q : Int32 → Hp → Prop} (hm : m_J8_newLength_cabcc E xp0 xp1 xp2 h kc ks Q) : XMet l yJ8_newLength_cabcc cJ8_newLength_cabcc 4 (some .int) 1 60 kc ks D E h [.int xp0, .int xp1, .int xp2] (fun A => va_Qi Q (XPost D A) A) := by
  refine xm_of (lv0 := [(0, .int xp0), (1, .int xp1), (2, .int xp2)]) (by decide) (Nat.le_of_ble_eq_true rfl) rfl RJ8 rfl (fun p e s m args below meth c A R hRm C hr hlk hnm => ?_)
  have hR : R.frames = 1 ∧ R.locals = 60 := by rw [hRm]; exact ⟨rfl, rfl⟩
  refine xr_iload_n C dJ8_newLength_cabcc_0 0 rfl ?_
  refine xr_iload_n C dJ8_newLength_cabcc_1 1 rfl ?_
  refine xr_iload_n C dJ8_newLength_cabcc_2 2 rfl ?_
  refine xr_mmax C wd_74 wd_75 wd_60 wd_73 (by rw [hR.1]; decide) (by rw [hR.2]; exact Nat.le_of_ble_eq_true rfl) dJ8_newLength_cabcc_3 (fun x2 e3 => ?_)
  replace hm := hm x2 e3
  refine xr_iadd C dJ8_newLength_cabcc_6 ?_
  refine xr_istore_n (lv' := [(3, .int (xp0 + x2)), (0, .int xp0), (1, .int xp1), (2, .int xp2)]) C dJ8_newLength_cabcc_7 (by decide) rfl ?_
  refine xr_iconst (v := 0) C dJ8_newLength_cabcc_8 rfl ?_
  refine xr_iload_n C dJ8_newLength_cabcc_9 0 rfl ?_
  refine xr_icmp_ge (tgt := 21) C dJ8_newLength_cabcc_10 (by decide) (fun q4 => ?_) (fun q4 => ?_)
  · replace hm := hm.1 q4
    refine xr_sub [1, 2] rfl ?_
    exact k_J8_newLength_cabcc_L21 C hr hlk hnm hR xp0 xp1 _ _ _ hm
  · replace hm := hm.2 q4
    refine xr_iload_n C dJ8_newLength_cabcc_13 0 rfl ?_
    refine xr_ldc (v := 2147483639) C dJ8_newLength_cabcc_14 wd_72 ?_
    refine xr_icmp_gt (tgt := 21) C dJ8_newLength_cabcc_16 (by decide) (fun q5 => ?_) (fun q5 => ?_)
    · replace hm := hm.1 q5
      refine xr_sub [1, 2] rfl ?_
      exact k_J8_newLength_cabcc_L21 C hr hlk hnm hR xp0 xp1 _ _ _ hm
    · replace hm := hm.2 q5
      refine xr_iload_n C dJ8_newLength_cabcc_19 0 rfl ?_
      exact xr_ireturn C hr hlk hm dJ8_newLength_cabcc_20
set_option maxRecDepth 100000 in
set_option maxHeartbeats 4000000 in
theorem k_J7_copyOf_6403c_L24 {p : Program} {l : Launch} {e : Env} {R : Room} {s : State} {m : MethodId} {args : Array Value} {below : List Frame} {meth : Method} {c : Code} {D : va_G} {E : Ev} {A : Nat → Prop} {KC KS : Nat} (C : XC p R s m args c D E A 4 RJ7 cJ7_copyOf_6403c KC KS) (hr : meth.sig.returnType = (some (.array (.object "java/lang/Object")))) (hlk : meth.locks = false) (hnm : meth.name = "copyOf") (hR : R.frames = 1 ∧ R.locals = 60) {Q : Option Nat → Hp → Prop} : ∀ (rv0 : Option Nat) (xv1 : Int32) (s0 : Option Nat) (h : Hp) (kc ks : Nat), m_J7_copyOf_6403c_L24 E rv0 xv1 s0 h kc ks Q → XW p l e R s m args below meth c (MQ below (va_Qq Q (XPost D A) A) args s KC KS A) D A KC KS 4 h kc ks [(0, va_rf rv0), (1, .int xv1)] 24 [va_rf s0] := by
  intro rv0 xv1 s0 h kc ks hm
  refine xr_astore_n (r := s0) (lv' := [(3, va_rf s0), (0, va_rf rv0), (1, .int xv1)]) C dJ7_copyOf_6403c_24 (by decide) rfl ?_
  refine xr_aload_n (r := rv0) C dJ7_copyOf_6403c_25 1 rfl ?_
  refine xr_iconst (v := 0) C dJ7_copyOf_6403c_26 rfl ?_
  refine xr_aload_n (r := s0) C dJ7_copyOf_6403c_27 0 rfl ?_
  refine xr_iconst (v := 0) C dJ7_copyOf_6403c_28 rfl ?_
  refine xr_aload_n (r := rv0) C dJ7_copyOf_6403c_29 1 rfl ?_
  obtain ⟨a9, rfl, hm⟩ := hm
  obtain ⟨x10, e8, hm⟩ := hm
  refine xr_alenX C e8 dJ7_copyOf_6403c_30 ?_
  refine xr_iload_n C dJ7_copyOf_6403c_31 2 rfl ?_
  refine xr_mmin C wd_58 wd_59 wd_60 wd_57 (by rw [hR.1]; decide) (by rw [hR.2]; simp [xv_cat, xv_ci, xv_cl, xv_cr, xv_cn]) dJ7_copyOf_6403c_32 (fun x12 e13 => ?_)
  replace hm := hm x12 e13
  obtain ⟨a15, rfl, hm⟩ := hm
  refine xr_cpR C 4 rfl wd_53 wd_54 wd_55 wd_56 hm (by rw [hR.1]; decide) (by rw [hR.2]; exact Nat.le_of_ble_eq_true rfl) dJ7_copyOf_6403c_35 (fun h16 hn => ?_)
  clear hm
  have hm := hn
  clear hn
  refine xr_aload_n (r := (some a15)) C dJ7_copyOf_6403c_38 0 rfl ?_
  exact xr_areturn (r := (some a15)) C hr (Or.inr ⟨_, rfl⟩) hlk hm dJ7_copyOf_6403c_39
set_option maxRecDepth 100000 in
set_option maxHeartbeats 4000000 in
theorem c_J7_copyOf_6403c {l : Launch} {D : va_G} {E : Ev} (rp0 : Option Nat) (xp1 : Int32) (rp2 : Option Nat) (h : Hp) (kc ks : Nat) {Q : Option Nat → Hp → Prop} (hm : m_J7_copyOf_6403c E rp0 xp1 rp2 h kc ks Q) : XMet l yJ7_copyOf_6403c cJ7_copyOf_6403c 4 (some (.array (.object "java/lang/Object"))) 1 60 kc ks D E h [va_rf rp0, .int xp1, va_rf rp2] (fun A => va_Qq Q (XPost D A) A) := by
  refine xm_of (lv0 := [(0, va_rf rp0), (1, .int xp1), (2, va_rf rp2)]) (by decide) (by simp [lg_sl, xv_cat, xv_ci, xv_cl, xv_cr, xv_cn]) (by simp [lv_args, xv_cat, xv_ci, xv_cl, xv_cr, xv_cn]) RJ7 rfl (fun p e s m args below meth c A R hRm C hr hlk hnm => ?_)
  have hR : R.frames = 1 ∧ R.locals = 60 := by rw [hRm]; exact ⟨rfl, rfl⟩
  refine xr_aload_n (r := rp2) C dJ7_copyOf_6403c_0 2 rfl ?_
  refine xr_ldcM 0 rfl C wd_76 dJ7_copyOf_6403c_1 ?_
  refine xr_acmp_ne (rx := rp2) (ry := (some (E.2.2 0))) (tgt := 13) C dJ7_copyOf_6403c_3 (by decide) (fun q1 => ?_) (fun q1 => ?_)
  · replace hm := hm.2 q1
    refine xr_aload_n (r := rp2) C dJ7_copyOf_6403c_13 2 rfl ?_
    exact False.elim hm
  · replace hm := hm.1 q1
    refine xr_iload_n C dJ7_copyOf_6403c_6 1 rfl ?_
    obtain ⟨N3, kc6, ks7, b3, c3, z3, kk3, kl3, hm⟩ := hm
    refine xr_newq C 4 rfl wd_77 (by decide) b3 c3 z3 kk3 kl3 dJ7_copyOf_6403c_7 (fun a4 h5 na3 eh3 => ?_)
    replace hm := hm a4 h5 na3 eh3
    refine xr_goto (tgt := 24) C dJ7_copyOf_6403c_10 (by decide) ?_
    refine xr_sub [0, 1] rfl ?_
    exact k_J7_copyOf_6403c_L24 C hr hlk hnm hR rp0 xp1 (some a4) _ _ _ hm
set_option maxRecDepth 100000 in
set_option maxHeartbeats 4000000 in
theorem c_J7_copyOf_1904c {l : Launch} {D : va_G} {E : Ev} (rp0 : Option Nat) (xp1 : Int32) (h : Hp) (kc ks : Nat) {Q : Option Nat → Hp → Prop} (hm : m_J7_copyOf_1904c E rp0 xp1 h kc ks Q) : XMet l yJ7_copyOf_1904c cJ7_copyOf_1904c 2 (some (.array (.object "java/lang/Object"))) 2 83 kc ks D E h [va_rf rp0, .int xp1] (fun A => va_Qq Q (XPost D A) A) := by
  refine xm_of (lv0 := [(0, va_rf rp0), (1, .int xp1)]) (by decide) (by simp [lg_sl, xv_cat, xv_ci, xv_cl, xv_cr, xv_cn]) (by simp [lv_args, xv_cat, xv_ci, xv_cl, xv_cr, xv_cn]) RJ7 rfl (fun p e s m args below meth c A R hRm C hr hlk hnm => ?_)
  have hR : R.frames = 2 ∧ R.locals = 83 := by rw [hRm]; exact ⟨rfl, rfl⟩
  refine xr_aload_n (r := rp0) C dJ7_copyOf_1904c_0 0 rfl ?_
  refine xr_iload_n C dJ7_copyOf_1904c_1 1 rfl ?_
  refine xr_aload_n (r := rp0) C dJ7_copyOf_1904c_2 0 rfl ?_
  obtain ⟨a2, rfl, hm⟩ := hm
  obtain ⟨⟨x1, e1⟩, hm⟩ := hm
  refine xr_getC C e1 wd_82 wn_2 wd_83 wd_84 wd_85 (by rw [hR.1]; decide) (by rw [hR.2]; exact Nat.le_of_ble_eq_true rfl) dJ7_copyOf_1904c_3 ?_
  obtain ⟨mc4, ms5, kc6, ks7, kk3, kl3, hm⟩ := hm
  refine xr_cSq (n := 3) (As := [.ref a2, .int xp1, .ref (E.2.2 0)]) (st := []) C (c_J7_copyOf_6403c (some a2) xp1 (some (E.2.2 0)) h mc4 ms5 hm) wd_78 wd_80 wd_81 wd_79 (by decide +kernel) rfl (by rw [hR.1, hR.2]; decide) kk3 kl3 rfl (Nat.le_of_ble_eq_true rfl) dJ7_copyOf_1904c_6 (fun r8 h9 hn => ?_)
  clear hm
  have hm := hn
  clear hn
  exact xr_areturn (r := r8) C hr (Or.inr ⟨_, rfl⟩) hlk hm dJ7_copyOf_1904c_9
set_option maxRecDepth 100000 in
set_option maxHeartbeats 4000000 in
theorem k_Jx4a65c_grow_92f84_L20 {p : Program} {l : Launch} {e : Env} {R : Room} {s : State} {m : MethodId} {args : Array Value} {below : List Frame} {meth : Method} {c : Code} {D : va_G} {E : Ev} {A : Nat → Prop} {KC KS : Nat} (C : XC p R s m args c D E A 4 RJx4a65c cJx4a65c_grow_92f84 KC KS) (hr : meth.sig.returnType = (some (.array (.object "java/lang/Object")))) (hlk : meth.locks = false) (hnm : meth.name = "grow") (hR : R.frames = 3 ∧ R.locals = 104) {Q : Option Nat → Hp → Prop} : ∀ (a0 : Nat) (xv1 : Int32) (xv2 : Int32) (h : Hp) (kc ks : Nat), m_Jx4a65c_grow_92f84_L20 E a0 xv1 xv2 h kc ks Q → XW p l e R s m args below meth c (MQ below (va_Qq Q (XPost D A) A) args s KC KS A) D A KC KS 4 h kc ks [(0, .ref a0), (1, .int xv1), (2, .int xv2)] 20 [] := by
  intro a0 xv1 xv2 h kc ks hm
  refine xr_iload_n C dJx4a65c_grow_92f84_20 2 rfl ?_
  refine xr_iload_n C dJx4a65c_grow_92f84_21 1 rfl ?_
  refine xr_iload_n C dJx4a65c_grow_92f84_22 2 rfl ?_
  refine xr_isub C dJx4a65c_grow_92f84_23 ?_
  refine xr_iload_n C dJx4a65c_grow_92f84_24 2 rfl ?_
  refine xr_iconst (v := 1) C dJx4a65c_grow_92f84_25 rfl ?_
  refine xr_ishr C dJx4a65c_grow_92f84_26 ?_
  refine xr_cSi (n := 3) (As := [.int xv2, .int (xv1 - xv2), .int (xv2 >>> ((1 : Int32) &&& 31))]) (st := []) C (c_J8_newLength_cabcc xv2 (xv1 - xv2) (xv2 >>> ((1 : Int32) &&& 31)) h 0 0 hm) wd_92 wd_94 wd_95 wd_93 (by decide +kernel) rfl (by rw [hR.1, hR.2]; decide) (Nat.zero_add _).symm (Nat.zero_add _).symm rfl (Nat.le_of_ble_eq_true rfl) dJx4a65c_grow_92f84_27 (fun x22 h23 hn => ?_)
  clear hm
  have hm := hn
  clear hn
  refine xr_istore_n (lv' := [(3, .int x22), (0, .ref a0), (1, .int xv1), (2, .int xv2)]) C dJx4a65c_grow_92f84_30 (by decide) rfl ?_
  refine xr_aload_n (r := (some a0)) C dJx4a65c_grow_92f84_31 1 rfl ?_
  refine xr_aload_n (r := (some a0)) C dJx4a65c_grow_92f84_32 1 rfl ?_
  obtain ⟨fs24, r25, e24, f24, hm⟩ := hm
  refine xr_get (ci := 0) C 1 e24 f24 rfl inJx4a65c (by decide) wd_40 dJx4a65c_grow_92f84_33 ?_
  refine xr_iload_n C dJx4a65c_grow_92f84_36 0 rfl ?_
  obtain ⟨mc27, ms28, kc29, ks30, kk26, kl26, hm⟩ := hm
  refine xr_cSq (n := 2) (As := [va_rf r25, .int x22]) (st := [.ref a0]) C (c_J7_copyOf_1904c r25 x22 h23 mc27 ms28 hm) wd_89 wd_91 wd_81 wd_90 (by decide +kernel) rfl (by rw [hR.1, hR.2]; decide) kk26 kl26 rfl (Nat.le_of_ble_eq_true rfl) dJx4a65c_grow_92f84_37 (fun r31 h32 hn => ?_)
  clear hm
  have hm := hn
  clear hn
  refine xr_dup_x1 C dJx4a65c_grow_92f84_40 (xv_cat _) rfl ?_
  obtain ⟨fs33, e33, f33, h34, eh33, hm⟩ := hm
  refine xr_put (ci := 0) (v := va_rf r31) C 1 (.array (.object "java/lang/Object")) tyJx4a65c tyJx4a65c_ok nmJx4a65c e33 f33 rfl inJx4a65c (by decide) wd_40 rfl (by decide) (xv_narA _ _) (xv_fitA _ _) eh33 dJx4a65c_grow_92f84_41 ?_
  exact xr_areturn (r := r31) C hr (Or.inr ⟨_, rfl⟩) hlk hm dJx4a65c_grow_92f84_44
set_option maxRecDepth 100000 in
set_option maxHeartbeats 4000000 in
theorem c_Jx4a65c_grow_92f84 {l : Launch} {D : va_G} {E : Ev} (a0 : Nat) (xp1 : Int32) (h : Hp) (kc ks : Nat) {Q : Option Nat → Hp → Prop} (hm : m_Jx4a65c_grow_92f84 E a0 xp1 h kc ks Q) : XMet l yJx4a65c_grow_92f84 cJx4a65c_grow_92f84 4 (some (.array (.object "java/lang/Object"))) 3 104 kc ks D E h [.ref a0, .int xp1] (fun A => va_Qq Q (XPost D A) A) := by
  refine xm_of (lv0 := [(0, .ref a0), (1, .int xp1)]) (by decide) (Nat.le_of_ble_eq_true rfl) rfl RJx4a65c rfl (fun p e s m args below meth c A R hRm C hr hlk hnm => ?_)
  have hR : R.frames = 3 ∧ R.locals = 104 := by rw [hRm]; exact ⟨rfl, rfl⟩
  refine xr_aload_n (r := (some a0)) C dJx4a65c_grow_92f84_0 0 rfl ?_
  obtain ⟨fs1, r2, e1, f1, hm⟩ := hm
  refine xr_get (ci := 0) C 1 e1 f1 rfl inJx4a65c (by decide) wd_40 dJx4a65c_grow_92f84_1 ?_
  obtain ⟨a4, rfl, hm⟩ := hm
  obtain ⟨x5, e3, hm⟩ := hm
  refine xr_alenX C e3 dJx4a65c_grow_92f84_4 ?_
  refine xr_istore_n (lv' := [(2, .int x5), (0, .ref a0), (1, .int xp1)]) C dJx4a65c_grow_92f84_5 (by decide) rfl ?_
  refine xr_iload_n C dJx4a65c_grow_92f84_6 0 rfl ?_
  refine xr_if_gt (tgt := 20) C dJx4a65c_grow_92f84_7 (by decide) (fun q6 => ?_) (fun q6 => ?_)
  · replace hm := hm.1 q6
    refine xr_sub [1, 2, 0] rfl ?_
    exact k_Jx4a65c_grow_92f84_L20 C hr hlk hnm hR a0 xp1 x5 _ _ _ hm
  · replace hm := hm.2 q6
    refine xr_aload_n (r := (some a0)) C dJx4a65c_grow_92f84_10 1 rfl ?_
    obtain ⟨fs7, r8, e7, f7, hm⟩ := hm
    refine xr_get (ci := 0) C 1 e7 f7 rfl inJx4a65c (by decide) wd_40 dJx4a65c_grow_92f84_11 ?_
    refine xr_gets C 2 rfl wd_86 dJx4a65c_grow_92f84_14 ?_
    refine xr_acmp_eq (rx := r8) (ry := (some (E.2.1 2))) (tgt := 45) C dJx4a65c_grow_92f84_17 (by decide) (fun q10 => ?_) (fun q10 => ?_)
    · replace hm := hm.1 q10
      refine xr_aload_n (r := (some a0)) C dJx4a65c_grow_92f84_45 1 rfl ?_
      refine xr_bipush (v := 10) C dJx4a65c_grow_92f84_46 rfl ?_
      refine xr_iload_n C dJx4a65c_grow_92f84_48 2 rfl ?_
      refine xr_mmax C wd_88 wd_75 wd_60 wd_73 (by rw [hR.1]; decide) (by rw [hR.2]; exact Nat.le_of_ble_eq_true rfl) dJx4a65c_grow_92f84_49 (fun x12 e13 => ?_)
      replace hm := hm x12 e13
      obtain ⟨N14, kc17, ks18, b14, c14, z14, kk14, kl14, hm⟩ := hm
      refine xr_newq C 4 rfl wd_87 (by decide) b14 c14 z14 kk14 kl14 dJx4a65c_grow_92f84_52 (fun a15 h16 na14 eh14 => ?_)
      replace hm := hm a15 h16 na14 eh14
      refine xr_dup_x1 C dJx4a65c_grow_92f84_55 rfl rfl ?_
      obtain ⟨fs19, e19, f19, h20, eh19, hm⟩ := hm
      refine xr_put (ci := 0) (v := .ref a15) C 1 (.array (.object "java/lang/Object")) tyJx4a65c tyJx4a65c_ok nmJx4a65c e19 f19 rfl inJx4a65c (by decide) wd_40 rfl (by decide) rfl rfl eh19 dJx4a65c_grow_92f84_56 ?_
      exact xr_areturn (r := (some a15)) C hr (Or.inr ⟨_, rfl⟩) hlk hm dJx4a65c_grow_92f84_59
    · replace hm := hm.2 q10
      refine xr_sub [1, 2, 0] rfl ?_
      exact k_Jx4a65c_grow_92f84_L20 C hr hlk hnm hR a0 xp1 x5 _ _ _ hm
set_option maxRecDepth 100000 in
set_option maxHeartbeats 4000000 in
theorem c_Jx4a65c_grow_d5877 {l : Launch} {D : va_G} {E : Ev} (a0 : Nat) (h : Hp) (kc ks : Nat) {Q : Option Nat → Hp → Prop} (hm : m_Jx4a65c_grow_d5877 E a0 h kc ks Q) : XMet l yJx4a65c_grow_d5877 cJx4a65c_grow_d5877 1 (some (.array (.object "java/lang/Object"))) 4 127 kc ks D E h [.ref a0] (fun A => va_Qq Q (XPost D A) A) := by
  refine xm_of (lv0 := [(0, .ref a0)]) (by decide) (Nat.le_of_ble_eq_true rfl) rfl RJx4a65c rfl (fun p e s m args below meth c A R hRm C hr hlk hnm => ?_)
  have hR : R.frames = 4 ∧ R.locals = 127 := by rw [hRm]; exact ⟨rfl, rfl⟩
  refine xr_aload_n (r := (some a0)) C dJx4a65c_grow_d5877_0 0 rfl ?_
  refine xr_aload_n (r := (some a0)) C dJx4a65c_grow_d5877_1 0 rfl ?_
  obtain ⟨fs1, x2, e1, f1, hm⟩ := hm
  refine xr_get (ci := 0) C 2 e1 f1 rfl inJx4a65c (by decide) wd_35 dJx4a65c_grow_d5877_2 ?_
  refine xr_iconst (v := 1) C dJx4a65c_grow_d5877_5 rfl ?_
  refine xr_iadd C dJx4a65c_grow_d5877_6 ?_
  obtain ⟨⟨fs3, e3⟩, hm⟩ := hm
  obtain ⟨mc4, ms5, kc6, ks7, kk3, kl3, hm⟩ := hm
  refine xr_cVq (n := 1) (As := [.int (x2 + 1)]) (st := []) C (c_Jx4a65c_grow_92f84 a0 (x2 + 1) h mc4 ms5 hm) e3 rfl wd_96 wd_98 wd_99 wd_45 wd_97 (by decide +kernel) rfl (by rw [hR.1, hR.2]; decide) kk3 kl3 rfl (Nat.le_of_ble_eq_true rfl) dJx4a65c_grow_d5877_7 (fun r8 h9 hn => ?_)
  clear hm
  have hm := hn
  clear hn
  exact xr_areturn (r := r8) C hr (Or.inr ⟨_, rfl⟩) hlk hm dJx4a65c_grow_d5877_10
set_option maxRecDepth 100000 in
set_option maxHeartbeats 4000000 in
theorem k_Jx4a65c_add_72be8_L11 {p : Program} {l : Launch} {e : Env} {R : Room} {s : State} {m : MethodId} {args : Array Value} {below : List Frame} {meth : Method} {c : Code} {D : va_G} {E : Ev} {A : Nat → Prop} {KC KS : Nat} (C : XC p R s m args c D E A 4 RJx4a65c cJx4a65c_add_72be8 KC KS) (hr : meth.sig.returnType = none) (hlk : meth.locks = false) (hnm : meth.name = "add") (hR : R.frames = 5 ∧ R.locals = 147) {Q : Hp → Prop} : ∀ (a0 : Nat) (rv1 : Option Nat) (rv2 : Option Nat) (xv3 : Int32) (h : Hp) (kc ks : Nat), m_Jx4a65c_add_72be8_L11 E a0 rv1 rv2 xv3 h kc ks Q → XW p l e R s m args below meth c (MQ below (va_Qv Q (XPost D A) A) args s KC KS A) D A KC KS 4 h kc ks [(0, .ref a0), (1, va_rf rv1), (2, va_rf rv2), (3, .int xv3)] 11 [] := by
  intro a0 rv1 rv2 xv3 h kc ks hm
  refine xr_aload_n (r := rv2) C dJx4a65c_add_72be8_11 2 rfl ?_
  refine xr_iload_n C dJx4a65c_add_72be8_12 3 rfl ?_
  refine xr_aload_n (r := rv1) C dJx4a65c_add_72be8_13 1 rfl ?_
  obtain ⟨a13, rfl, hm⟩ := hm
  obtain ⟨a14, rfl, hm⟩ := hm
  obtain ⟨ev12, N12, f12, e12, b12, h15, v12, hm⟩ := hm
  refine xr_aastO C 4 rfl e12 ev12 b12 v12 dJx4a65c_add_72be8_14 ?_
  refine xr_aload_n (r := (some a0)) C dJx4a65c_add_72be8_15 0 rfl ?_
  refine xr_iload_n C dJx4a65c_add_72be8_16 3 rfl ?_
  refine xr_iconst (v := 1) C dJx4a65c_add_72be8_17 rfl ?_
  refine xr_iadd C dJx4a65c_add_72be8_18 ?_
  obtain ⟨fs16, e16, f16, h17, eh16, hm⟩ := hm
  refine xr_put (ci := 0) (v := .int (xv3 + 1)) C 2 .int tyJx4a65c tyJx4a65c_ok nmJx4a65c e16 f16 rfl inJx4a65c (by decide) wd_35 rfl (by decide) rfl rfl eh16 dJx4a65c_add_72be8_19 ?_
  exact xr_vreturn C hr hlk hm dJx4a65c_add_72be8_22
set_option maxRecDepth 100000 in
set_option maxHeartbeats 4000000 in
theorem c_Jx4a65c_add_72be8 {l : Launch} {D : va_G} {E : Ev} (a0 : Nat) (rp1 : Option Nat) (rp2 : Option Nat) (xp3 : Int32) (h : Hp) (kc ks : Nat) {Q : Hp → Prop} (hm : m_Jx4a65c_add_72be8 E a0 rp1 rp2 xp3 h kc ks Q) : XMet l yJx4a65c_add_72be8 cJx4a65c_add_72be8 4 none 5 147 kc ks D E h [.ref a0, va_rf rp1, va_rf rp2, .int xp3] (fun A => va_Qv Q (XPost D A) A) := by
  refine xm_of (lv0 := [(0, .ref a0), (1, va_rf rp1), (2, va_rf rp2), (3, .int xp3)]) (by decide) (by simp [lg_sl, xv_cat, xv_ci, xv_cl, xv_cr, xv_cn]) (by simp [lv_args, xv_cat, xv_ci, xv_cl, xv_cr, xv_cn]) RJx4a65c rfl (fun p e s m args below meth c A R hRm C hr hlk hnm => ?_)
  have hR : R.frames = 5 ∧ R.locals = 147 := by rw [hRm]; exact ⟨rfl, rfl⟩
  refine xr_iload_n C dJx4a65c_add_72be8_0 3 rfl ?_
  refine xr_aload_n (r := rp2) C dJx4a65c_add_72be8_1 2 rfl ?_
  obtain ⟨a2, rfl, hm⟩ := hm
  obtain ⟨x3, e1, hm⟩ := hm
  refine xr_alenX C e1 dJx4a65c_add_72be8_2 ?_
  refine xr_icmp_ne (tgt := 11) C dJx4a65c_add_72be8_3 (by decide) (fun q4 => ?_) (fun q4 => ?_)
  · replace hm := hm.2 q4
    exact k_Jx4a65c_add_72be8_L11 C hr hlk hnm hR a0 rp1 (some a2) xp3 _ _ _ hm
  · replace hm := hm.1 q4
    refine xr_aload_n (r := (some a0)) C dJx4a65c_add_72be8_6 0 rfl ?_
    obtain ⟨⟨fs5, e5⟩, hm⟩ := hm
    obtain ⟨mc6, ms7, kc8, ks9, kk5, kl5, hm⟩ := hm
    refine xr_cVq (n := 0) (As := []) (st := []) C (c_Jx4a65c_grow_d5877 a0 h mc6 ms7 hm) e5 rfl wd_100 wd_102 wd_103 wd_45 wd_101 (by decide +kernel) rfl (by rw [hR.1, hR.2]; decide) kk5 kl5 rfl (Nat.le_of_ble_eq_true rfl) dJx4a65c_add_72be8_7 (fun r10 h11 hn => ?_)
    clear hm
    have hm := hn
    clear hn
    refine xr_astore_n (r := r10) (lv' := [(2, va_rf r10), (0, .ref a0), (1, va_rf rp1), (3, .int xp3)]) C dJx4a65c_add_72be8_10 (by decide) (by simp [xv_put1, xv_cat, xv_ci, xv_cl, xv_cr, xv_cn] <;> decide) ?_
    refine xr_sub [1, 2, 0, 3] rfl ?_
    exact k_Jx4a65c_add_72be8_L11 C hr hlk hnm hR a0 rp1 r10 xp3 _ _ _ hm
set_option maxRecDepth 100000 in
set_option maxHeartbeats 4000000 in
theorem c_Jx4a65c_add_9ea2d {l : Launch} {D : va_G} {E : Ev} (a0 : Nat) (rp1 : Option Nat) (h : Hp) (kc ks : Nat) {Q : Int32 → Hp → Prop} (hm : m_Jx4a65c_add_9ea2d E a0 rp1 h kc ks Q) : XMet l yJx4a65c_add_9ea2d cJx4a65c_add_9ea2d 2 (some .boolean) 6 170 kc ks D E h [.ref a0, va_rf rp1] (fun A => va_Qi Q (XPost D A) A) := by
  refine xm_of (lv0 := [(0, .ref a0), (1, va_rf rp1)]) (by decide) (by simp [lg_sl, xv_cat, xv_ci, xv_cl, xv_cr, xv_cn]) (by simp [lv_args, xv_cat, xv_ci, xv_cl, xv_cr, xv_cn]) RJx4a65c rfl (fun p e s m args below meth c A R hRm C hr hlk hnm => ?_)
  have hR : R.frames = 6 ∧ R.locals = 170 := by rw [hRm]; exact ⟨rfl, rfl⟩
  refine xr_aload_n (r := (some a0)) C dJx4a65c_add_9ea2d_0 0 rfl ?_
  refine xr_dup C dJx4a65c_add_9ea2d_1 rfl ?_
  obtain ⟨fs1, x2, e1, f1, hm⟩ := hm
  refine xr_getS (ci := 0) C 0 e1 f1 rfl inJx4a65c (by decide) wd_104 wd_105 dJx4a65c_add_9ea2d_2 ?_
  refine xr_iconst (v := 1) C dJx4a65c_add_9ea2d_5 rfl ?_
  refine xr_iadd C dJx4a65c_add_9ea2d_6 ?_
  obtain ⟨fs3, e3, f3, h4, eh3, hm⟩ := hm
  refine xr_putS (ci := 0) (v := .int (x2 + 1)) C 0 .int tyJx4a65c tyJx4a65c_ok nmJx4a65c e3 f3 rfl inJx4a65c (by decide) wd_104 wd_105 rfl (by decide) rfl rfl eh3 dJx4a65c_add_9ea2d_7 ?_
  refine xr_aload_n (r := (some a0)) C dJx4a65c_add_9ea2d_10 0 rfl ?_
  refine xr_aload_n (r := rp1) C dJx4a65c_add_9ea2d_11 1 rfl ?_
  refine xr_aload_n (r := (some a0)) C dJx4a65c_add_9ea2d_12 0 rfl ?_
  obtain ⟨fs5, r6, e5, f5, hm⟩ := hm
  refine xr_get (ci := 0) C 1 e5 f5 rfl inJx4a65c (by decide) wd_40 dJx4a65c_add_9ea2d_13 ?_
  refine xr_aload_n (r := (some a0)) C dJx4a65c_add_9ea2d_16 0 rfl ?_
  obtain ⟨fs7, x8, e7, f7, hm⟩ := hm
  refine xr_get (ci := 0) C 2 e7 f7 rfl inJx4a65c (by decide) wd_35 dJx4a65c_add_9ea2d_17 ?_
  obtain ⟨⟨fs9, e9⟩, hm⟩ := hm
  obtain ⟨mc10, ms11, kc12, ks13, kk9, kl9, hm⟩ := hm
  refine xr_cVv (n := 3) (As := [va_rf rp1, va_rf r6, .int x8]) (st := []) C (c_Jx4a65c_add_72be8 a0 rp1 r6 x8 h4 mc10 ms11 hm) e9 rfl wd_106 wd_108 wd_109 wd_45 wd_107 (by decide +kernel) rfl (by rw [hR.1, hR.2]; decide) kk9 kl9 rfl (Nat.le_of_ble_eq_true rfl) dJx4a65c_add_9ea2d_20 (fun h15 hn => ?_)
  clear hm
  have hm := hn
  clear hn
  refine xr_iconst (v := 1) C dJx4a65c_add_9ea2d_23 rfl ?_
  exact xr_zreturn C hr hlk (Or.inr rfl) hm dJx4a65c_add_9ea2d_24
set_option maxRecDepth 100000 in
set_option maxHeartbeats 4000000 in
theorem k_X7_seal_L2 {p : Program} {l : Launch} {e : Env} {R : Room} {s : State} {m : MethodId} {args : Array Value} {below : List Frame} {meth : Method} {c : Code} {D : va_G} {E : Ev} {A : Nat → Prop} {KC KS : Nat} (C : XC p R s m args c D E A 2 RX7 cX7_seal KC KS) (hr : meth.sig.returnType = (some .long)) (hlk : meth.locks = false) (hnm : meth.name = "seal") (hR : R.frames = 7 ∧ R.locals = 191) {Q : Int64 → Hp → Prop} : ∀ (n : Nat) (a0 : Nat) (xv1 : Int32) (h : Hp) (kc ks : Nat), m_X7_seal_L2 n E a0 xv1 h kc ks Q → XW p l e R s m args below meth c (MQ below (va_Ql Q (XPost D A) A) args s KC KS A) D A KC KS 2 h kc ks [(0, .ref a0), (1, .int xv1)] 2 [] := by
  intro n
  induction n with
  | zero => intro a0 xv1 h kc ks hm; exact False.elim hm
  | succ n ih =>
    intro a0 xv1 h kc ks hm
    refine xr_iload_n C dX7_seal_2 1 rfl ?_
    refine xr_aload_n (r := (some a0)) C dX7_seal_3 0 rfl ?_
    obtain ⟨fs2, r3, e2, f2, hm⟩ := hm
    refine xr_get (ci := 8) C 0 e2 f2 rfl inX7 (by decide) wd_110 dX7_seal_4 ?_
    obtain ⟨a7, rfl, hm⟩ := hm
    obtain ⟨⟨fs4, e4⟩, hm⟩ := hm
    refine xr_cVi (n := 0) (As := []) (st := [.int xv1]) C (c_Jx4a65c_size_8abf5 a7 h 0 0 hm) e4 rfl wd_111 wd_113 wd_114 wd_45 wd_112 (by decide +kernel) rfl (by rw [hR.1, hR.2]; decide) (Nat.zero_add _).symm (Nat.zero_add _).symm rfl (Nat.le_of_ble_eq_true rfl) dX7_seal_7 (fun x5 h6 hn => ?_)
    clear hm
    have hm := hn
    clear hn
    refine xr_icmp_ge (tgt := 42) C dX7_seal_10 (by decide) (fun q8 => ?_) (fun q8 => ?_)
    · replace hm := hm.1 q8
      refine xr_aload_n (r := (some a0)) C dX7_seal_42 0 rfl ?_
      obtain ⟨fs9, r10, e9, f9, hm⟩ := hm
      refine xr_get (ci := 8) C 0 e9 f9 rfl inX7 (by decide) wd_110 dX7_seal_43 ?_
      obtain ⟨kc14, ks15, kk11, kl11, hm⟩ := hm
      refine xr_new (ci := 7) (fs := [.int 0, .int 0, .null]) C tyX6 tyX6_ok rfl inX6 wd_126 wd_127 wd_122 dvX6 kk11 kl11 dX7_seal_46 (fun a12 h13 na11 eh11 => ?_)
      replace hm := hm a12 h13 na11 eh11
      refine xr_dup C dX7_seal_49 rfl ?_
      refine xr_aload_n (r := (some a0)) C dX7_seal_50 0 rfl ?_
      obtain ⟨fs16, x17, e16, f16, hm⟩ := hm
      refine xr_get (ci := 8) C 3 e16 f16 rfl inX7 (by decide) wd_21 dX7_seal_51 ?_
      refine xr_aload_n (r := (some a0)) C dX7_seal_54 0 rfl ?_
      obtain ⟨fs18, x19, e18, f18, hm⟩ := hm
      refine xr_get (ci := 8) C 4 e18 f18 rfl inX7 (by decide) wd_22 dX7_seal_55 ?_
      refine xr_aload_n (r := (some a0)) C dX7_seal_58 0 rfl ?_
      obtain ⟨fs20, r21, e20, f20, hm⟩ := hm
      refine xr_get (ci := 8) C 1 e20 f20 rfl inX7 (by decide) wd_24 dX7_seal_59 ?_
      refine xr_aload_n (r := (some a0)) C dX7_seal_62 0 rfl ?_
      obtain ⟨fs22, x23, e22, f22, hm⟩ := hm
      refine xr_get (ci := 8) C 2 e22 f22 rfl inX7 (by decide) wd_23 dX7_seal_63 ?_
      obtain ⟨mc25, ms26, kc27, ks28, kk24, kl24, hm⟩ := hm
      refine xr_cSq (n := 2) (As := [va_rf r21, .int x23]) (st := [.int x19, .int x17, .ref a12, .ref a12, va_rf r10]) C (c_J7_copyOf_c38d5 r21 x23 h13 mc25 ms26 hm) wd_123 wd_125 wd_81 wd_124 (by decide +kernel) rfl (by rw [hR.1, hR.2]; decide) kk24 kl24 rfl (by simp [xv_cat, xv_ci, xv_cl, xv_cr, xv_cn]) dX7_seal_66 (fun r29 h30 hn => ?_)
      clear hm
      have hm := hn
      clear hn
      refine xr_cIv (n := 3) (As := [.int x17, .int x19, va_rf r29]) (st := [.ref a12, va_rf r10]) C (c_X6_init a12 x17 x19 r29 h30 0 0 hm) wd_119 wd_121 wd_122 wd_120 rfl (by decide +kernel) rfl (by rw [hR.1, hR.2]; decide) (Nat.zero_add _).symm (Nat.zero_add _).symm rfl (by simp [xv_cat, xv_ci, xv_cl, xv_cr, xv_cn]) dX7_seal_69 (fun h33 hn => ?_)
      clear hm
      have hm := hn
      clear hn
      obtain ⟨a41, rfl, hm⟩ := hm
      obtain ⟨⟨fs34, e34⟩, hm⟩ := hm
      obtain ⟨mc35, ms36, kc37, ks38, kk34, kl34, hm⟩ := hm
      refine xr_cVi (n := 1) (As := [.ref a12]) (st := []) C (c_Jx4a65c_add_9ea2d a41 (some a12) h33 mc35 ms36 hm) e34 rfl wd_115 wd_117 wd_118 wd_45 wd_116 (by decide +kernel) rfl (by rw [hR.1, hR.2]; decide) kk34 kl34 rfl (Nat.le_of_ble_eq_true rfl) dX7_seal_72 (fun x39 h40 hn => ?_)
      clear hm
      have hm := hn
      clear hn
      refine xr_pop C dX7_seal_75 rfl ?_
      refine xr_aload_n (r := (some a0)) C dX7_seal_76 0 rfl ?_
      obtain ⟨fs42, r43, e42, f42, hm⟩ := hm
      refine xr_get (ci := 8) C 0 e42 f42 rfl inX7 (by decide) wd_110 dX7_seal_77 ?_
      obtain ⟨a47, rfl, hm⟩ := hm
      obtain ⟨⟨fs44, e44⟩, hm⟩ := hm
      refine xr_cVi (n := 0) (As := []) (st := []) C (c_Jx4a65c_size_8abf5 a47 h40 0 0 hm) e44 rfl wd_111 wd_113 wd_114 wd_45 wd_112 (by decide +kernel) rfl (by rw [hR.1, hR.2]; decide) (Nat.zero_add _).symm (Nat.zero_add _).symm rfl (Nat.le_of_ble_eq_true rfl) dX7_seal_80 (fun x45 h46 hn => ?_)
      clear hm
      have hm := hn
      clear hn
      refine xr_i2l (v := x45.toInt64) C dX7_seal_83 rfl ?_
      exact xr_lreturn C hr hlk hm dX7_seal_84
    · replace hm := hm.2 q8
      refine xr_aload_n (r := (some a0)) C dX7_seal_13 0 rfl ?_
      refine xr_aload_n (r := (some a0)) C dX7_seal_14 0 rfl ?_
      obtain ⟨fs48, r49, e48, f48, hm⟩ := hm
      refine xr_get (ci := 8) C 0 e48 f48 rfl inX7 (by decide) wd_110 dX7_seal_15 ?_
      refine xr_iload_n C dX7_seal_18 1 rfl ?_
      obtain ⟨a53, rfl, hm⟩ := hm
      obtain ⟨⟨fs50, e50⟩, hm⟩ := hm
      refine xr_cVq (n := 1) (As := [.int xv1]) (st := [.ref a0]) C (c_Jx4a65c_get_915e3 a53 xv1 h6 0 0 hm) e50 rfl wd_132 wd_134 wd_135 wd_45 wd_133 (by decide +kernel) rfl (by rw [hR.1, hR.2]; decide) (Nat.zero_add _).symm (Nat.zero_add _).symm rfl (Nat.le_of_ble_eq_true rfl) dX7_seal_19 (fun r51 h52 hn => ?_)
      clear hm
      have hm := hn
      clear hn
      obtain ⟨a55, rfl, hm⟩ := hm
      obtain ⟨⟨fs54, e54⟩, hm⟩ := hm
      refine xr_cast C e54 rfl wd_126 dX7_seal_22 ?_
      obtain ⟨⟨fs56, e56⟩, hm⟩ := hm
      refine xr_cVi (n := 1) (As := [.ref a55]) (st := []) C (c_X7_isTheirs a0 (some a55) h52 0 0 hm) e56 rfl wd_128 wd_130 wd_131 wd_30 wd_129 (by decide +kernel) rfl (by rw [hR.1, hR.2]; decide) (Nat.zero_add _).symm (Nat.zero_add _).symm rfl (Nat.le_of_ble_eq_true rfl) dX7_seal_25 (fun x57 h58 hn => ?_)
      clear hm
      have hm := hn
      clear hn
      refine xr_if_eq (tgt := 36) C dX7_seal_28 (by decide) (fun q59 => ?_) (fun q59 => ?_)
      · replace hm := hm.1 q59
        refine xr_iinc (j := 1) (v := xv1 + 1) (lv' := [(1, .int (xv1 + 1)), (0, .ref a0)]) C dX7_seal_36 rfl rfl (by decide) rfl ?_
        refine xr_goto (tgt := 2) C dX7_seal_39 (by decide) ?_
        refine xr_sub [1, 0] rfl ?_
        exact ih a0 (xv1 + 1) _ _ _ hm
      · replace hm := hm.2 q59
        refine xr_iload_n C dX7_seal_31 1 rfl ?_
        refine xr_iconst (v := 1) C dX7_seal_32 rfl ?_
        refine xr_iadd C dX7_seal_33 ?_
        refine xr_i2l (v := (xv1 + 1).toInt64) C dX7_seal_34 rfl ?_
        exact xr_lreturn C hr hlk hm dX7_seal_35
set_option maxRecDepth 100000 in
set_option maxHeartbeats 4000000 in
theorem c_X7_seal {l : Launch} {D : va_G} {E : Ev} (a0 : Nat) (h : Hp) (kc ks : Nat) {Q : Int64 → Hp → Prop} (hm : m_X7_seal E a0 h kc ks Q) : XMet l yX7_seal cX7_seal 2 (some .long) 7 191 kc ks D E h [.ref a0] (fun A => va_Ql Q (XPost D A) A) := by
  refine xm_of (lv0 := [(0, .ref a0)]) (by decide) (Nat.le_of_ble_eq_true rfl) rfl RX7 rfl (fun p e s m args below meth c A R hRm C hr hlk hnm => ?_)
  have hR : R.frames = 7 ∧ R.locals = 191 := by rw [hRm]; exact ⟨rfl, rfl⟩
  refine xr_iconst (v := 0) C dX7_seal_0 rfl ?_
  refine xr_istore_n (lv' := [(1, .int 0), (0, .ref a0)]) C dX7_seal_1 (by decide) rfl ?_
  obtain ⟨n1, hm⟩ := hm
  refine xr_sub [1, 0] rfl ?_
  exact k_X7_seal_L2 C hr hlk hnm hR n1 a0 0 _ _ _ hm
set_option maxRecDepth 100000 in
set_option maxHeartbeats 4000000 in
theorem c_X4_init {l : Launch} {D : va_G} {E : Ev} (a0 : Nat) (h : Hp) (kc ks : Nat) {Q : Hp → Prop} (hm : m_X4_init E a0 h kc ks Q) : XMet l yX4_init cX4_init 1 none 1 24 kc ks D E h [.ref a0] (fun A => va_Qv Q (XPost D A) A) := by
  refine xm_of (lv0 := [(0, .ref a0)]) (by decide) (Nat.le_of_ble_eq_true rfl) rfl RX4 rfl (fun p e s m args below meth c A R hRm C hr hlk hnm => ?_)
  have hR : R.frames = 1 ∧ R.locals = 24 := by rw [hRm]; exact ⟨rfl, rfl⟩
  refine xr_aload_n (r := (some a0)) C dX4_init_0 0 rfl ?_
  refine xr_obj C wd_136 wd_1 wd_2 (by rw [hR.1]; decide) (by rw [hR.2]; exact Nat.le_of_ble_eq_true rfl) dX4_init_1 ?_
  refine xr_aload_n (r := (some a0)) C dX4_init_4 0 rfl ?_
  refine xr_bipush (v := 64) C dX4_init_5 rfl ?_
  obtain ⟨N2, kc5, ks6, b2, c2, z2, kk2, kl2, hm⟩ := hm
  refine xr_newa_int C 0 rfl wd_138 b2 c2 z2 kk2 kl2 dX4_init_7 (fun a3 h4 na2 eh2 => ?_)
  replace hm := hm a3 h4 na2 eh2
  obtain ⟨fs7, e7, f7, h8, eh7, hm⟩ := hm
  refine xr_putF (ci := 5) (v := .ref a3) C 5 (.array .int) tyX4 tyX4_ok nmX4 e7 f7 rfl inX4 (by decide) wd_137 rfl hnm rfl (by decide) rfl rfl eh7 dX4_init_9 ?_
  exact xr_vreturn C hr hlk hm dX4_init_12
set_option maxRecDepth 100000 in
set_option maxHeartbeats 4000000 in
theorem k_X9_add_L39 {p : Program} {l : Launch} {e : Env} {R : Room} {s : State} {m : MethodId} {args : Array Value} {below : List Frame} {meth : Method} {c : Code} {D : va_G} {E : Ev} {A : Nat → Prop} {KC KS : Nat} (C : XC p R s m args c D E A 6 RX9 cX9_add KC KS) (hr : meth.sig.returnType = (some (.object "CardPayments$Message"))) (hlk : meth.locks = false) (hnm : meth.name = "add") (hR : R.frames = 2 ∧ R.locals = 44) {Q : Option Nat → Hp → Prop} : ∀ (a0 : Nat) (xv1 : Int32) (xv2 : Int32) (xv3 : Int32) (xv4 : Int32) (h : Hp) (kc ks : Nat), m_X9_add_L39 E a0 xv1 xv2 xv3 xv4 h kc ks Q → XW p l e R s m args below meth c (MQ below (va_Qq Q (XPost D A) A) args s KC KS A) D A KC KS 6 h kc ks [(0, .ref a0), (1, .int xv1), (2, .int xv2), (3, .int xv3), (4, .int xv4)] 39 [] := by
  intro a0 xv1 xv2 xv3 xv4 h kc ks hm
  refine xr_aload_n (r := (some a0)) C dX9_add_39 0 rfl ?_
  obtain ⟨fs32, r33, e32, f32, hm⟩ := hm
  refine xr_get (ci := 10) C 0 e32 f32 rfl inX9 (by decide) wd_140 dX9_add_40 ?_
  refine xr_aload_n (r := (some a0)) C dX9_add_43 0 rfl ?_
  obtain ⟨fs34, x35, e34, f34, hm⟩ := hm
  refine xr_get (ci := 10) C 1 e34 f34 rfl inX9 (by decide) wd_139 dX9_add_44 ?_
  obtain ⟨a37, rfl, hm⟩ := hm
  obtain ⟨N36, f36, r38, e36, b36, v36, hm⟩ := hm
  refine xr_aald C 3 rfl e36 b36 v36 dX9_add_47 ?_
  refine xr_astore (r := r38) (lv' := [(5, va_rf r38), (0, .ref a0), (1, .int xv1), (2, .int xv2), (3, .int xv3), (4, .int xv4)]) C dX9_add_48 (by decide) rfl ?_
  refine xr_aload_n (r := (some a0)) C dX9_add_50 1 rfl ?_
  refine xr_dup C dX9_add_51 rfl ?_
  obtain ⟨fs39, x40, e39, f39, hm⟩ := hm
  refine xr_get (ci := 10) C 1 e39 f39 rfl inX9 (by decide) wd_139 dX9_add_52 ?_
  refine xr_iconst (v := 1) C dX9_add_55 rfl ?_
  refine xr_iadd C dX9_add_56 ?_
  obtain ⟨fs41, e41, f41, h42, eh41, hm⟩ := hm
  refine xr_put (ci := 10) (v := .int (x40 + 1)) C 1 .int tyX9 tyX9_ok nmX9 e41 f41 rfl inX9 (by decide) wd_139 rfl (by decide) rfl rfl eh41 dX9_add_57 ?_
  refine xr_aload (r := r38) C dX9_add_60 0 rfl ?_
  refine xr_iload_n C dX9_add_62 2 rfl ?_
  obtain ⟨a44, rfl, hm⟩ := hm
  obtain ⟨fs43, e43, f43, h45, eh43, hm⟩ := hm
  refine xr_put (ci := 5) (v := .int xv1) C 0 .int tyX4 tyX4_ok nmX4 e43 f43 rfl inX4 (by decide) wd_146 rfl (by decide) rfl rfl eh43 dX9_add_63 ?_
  refine xr_aload (r := (some a44)) C dX9_add_66 0 rfl ?_
  refine xr_iload_n C dX9_add_68 3 rfl ?_
  obtain ⟨fs46, e46, f46, h47, eh46, hm⟩ := hm
  refine xr_put (ci := 5) (v := .int xv2) C 1 .int tyX4 tyX4_ok nmX4 e46 f46 rfl inX4 (by decide) wd_147 rfl (by decide) rfl rfl eh46 dX9_add_69 ?_
  refine xr_aload (r := (some a44)) C dX9_add_72 0 rfl ?_
  refine xr_iload_n C dX9_add_74 4 rfl ?_
  obtain ⟨fs48, e48, f48, h49, eh48, hm⟩ := hm
  refine xr_put (ci := 5) (v := .int xv3) C 2 .int tyX4 tyX4_ok nmX4 e48 f48 rfl inX4 (by decide) wd_148 rfl (by decide) rfl rfl eh48 dX9_add_75 ?_
  refine xr_aload (r := (some a44)) C dX9_add_78 0 rfl ?_
  refine xr_iload C dX9_add_80 5 rfl ?_
  obtain ⟨fs50, e50, f50, h51, eh50, hm⟩ := hm
  refine xr_put (ci := 5) (v := .int xv4) C 3 .int tyX4 tyX4_ok nmX4 e50 f50 rfl inX4 (by decide) wd_149 rfl (by decide) rfl rfl eh50 dX9_add_82 ?_
  refine xr_aload (r := (some a44)) C dX9_add_85 0 rfl ?_
  exact xr_areturn (r := (some a44)) C hr (Or.inl ⟨_, rfl⟩) hlk hm dX9_add_87
set_option maxRecDepth 100000 in
set_option maxHeartbeats 4000000 in
theorem c_X9_add {l : Launch} {D : va_G} {E : Ev} (a0 : Nat) (xp1 : Int32) (xp2 : Int32) (xp3 : Int32) (xp4 : Int32) (h : Hp) (kc ks : Nat) {Q : Option Nat → Hp → Prop} (hm : m_X9_add E a0 xp1 xp2 xp3 xp4 h kc ks Q) : XMet l yX9_add cX9_add 6 (some (.object "CardPayments$Message")) 2 44 kc ks D E h [.ref a0, .int xp1, .int xp2, .int xp3, .int xp4] (fun A => va_Qq Q (XPost D A) A) := by
  refine xm_of (lv0 := [(0, .ref a0), (1, .int xp1), (2, .int xp2), (3, .int xp3), (4, .int xp4)]) (by decide) (Nat.le_of_ble_eq_true rfl) rfl RX9 rfl (fun p e s m args below meth c A R hRm C hr hlk hnm => ?_)
  have hR : R.frames = 2 ∧ R.locals = 44 := by rw [hRm]; exact ⟨rfl, rfl⟩
  refine xr_aload_n (r := (some a0)) C dX9_add_0 0 rfl ?_
  obtain ⟨fs1, x2, e1, f1, hm⟩ := hm
  refine xr_get (ci := 10) C 1 e1 f1 rfl inX9 (by decide) wd_139 dX9_add_1 ?_
  refine xr_bipush (v := 60) C dX9_add_4 rfl ?_
  refine xr_icmp_lt (tgt := 11) C dX9_add_6 (by decide) (fun q3 => ?_) (fun q3 => ?_)
  · replace hm := hm.1 q3
    refine xr_aload_n (r := (some a0)) C dX9_add_11 0 rfl ?_
    obtain ⟨fs4, r5, e4, f4, hm⟩ := hm
    refine xr_get (ci := 10) C 0 e4 f4 rfl inX9 (by decide) wd_140 dX9_add_12 ?_
    refine xr_aload_n (r := (some a0)) C dX9_add_15 0 rfl ?_
    obtain ⟨fs6, x7, e6, f6, hm⟩ := hm
    refine xr_get (ci := 10) C 1 e6 f6 rfl inX9 (by decide) wd_139 dX9_add_16 ?_
    obtain ⟨a9, rfl, hm⟩ := hm
    obtain ⟨N8, f8, r10, e8, b8, v8, hm⟩ := hm
    refine xr_aald C 3 rfl e8 b8 v8 dX9_add_19 ?_
    refine xr_ifnonnull (tgt := 39) C dX9_add_20 (by decide) (fun a12 q11 => ?_) (fun q11 => ?_)
    · replace hm := hm.2 a12 q11
      subst q11
      exact k_X9_add_L39 C hr hlk hnm hR a0 xp1 xp2 xp3 xp4 _ _ _ hm
    · replace hm := hm.1 q11
      subst q11
      refine xr_aload_n (r := (some a0)) C dX9_add_23 0 rfl ?_
      obtain ⟨fs13, r14, e13, f13, hm⟩ := hm
      refine xr_get (ci := 10) C 0 e13 f13 rfl inX9 (by decide) wd_140 dX9_add_24 ?_
      refine xr_aload_n (r := (some a0)) C dX9_add_27 0 rfl ?_
      obtain ⟨fs15, x16, e15, f15, hm⟩ := hm
      refine xr_get (ci := 10) C 1 e15 f15 rfl inX9 (by decide) wd_139 dX9_add_28 ?_
      obtain ⟨kc20, ks21, kk17, kl17, hm⟩ := hm
      refine xr_new (ci := 5) (fs := [.int 0, .int 0, .int 0, .int 0, .int 0, .null]) C tyX4 tyX4_ok rfl inX4 wd_144 wd_145 wd_143 dvX4 kk17 kl17 dX9_add_31 (fun a18 h19 na17 eh17 => ?_)
      replace hm := hm a18 h19 na17 eh17
      refine xr_dup C dX9_add_34 rfl ?_
      obtain ⟨mc23, ms24, kc25, ks26, kk22, kl22, hm⟩ := hm
      refine xr_cINv (n := 0) (As := []) (st := [.ref a18, .int x16, va_rf r14]) C (c_X4_init a18 h19 mc23 ms24 hm) wn_3 wd_142 wd_143 wd_141 rfl (by decide +kernel) rfl (by rw [hR.1, hR.2]; decide) kk22 kl22 rfl (by simp [xv_cat, xv_ci, xv_cl, xv_cr, xv_cn]) dX9_add_35 (fun h28 hn => ?_)
      clear hm
      have hm := hn
      clear hn
      obtain ⟨a30, rfl, hm⟩ := hm
      obtain ⟨⟨fv29, ev29⟩, N29, f29, e29, b29, h31, v29, hm⟩ := hm
      refine xr_aast C 3 rfl e29 ev29 rfl b29 v29 dX9_add_38 ?_
      exact k_X9_add_L39 C hr hlk hnm hR a0 xp1 xp2 xp3 xp4 _ _ _ hm
  · replace hm := hm.2 q3
    refine xr_null C dX9_add_9 ?_
    exact xr_areturn (r := none) C hr (Or.inl ⟨_, rfl⟩) hlk hm dX9_add_10
set_option maxRecDepth 100000 in
set_option maxHeartbeats 4000000 in
theorem c_X4_hasField {l : Launch} {D : va_G} {E : Ev} (xp0 : Int32) (xp1 : Int32) (h : Hp) (kc ks : Nat) {Q : Int32 → Hp → Prop} (hm : m_X4_hasField E xp0 xp1 h kc ks Q) : XMet l yX4_hasField cX4_hasField 2 (some .boolean) 0 0 kc ks D E h [.int xp0, .int xp1] (fun A => va_Qi Q (XPost D A) A) := by
  refine xm_of (lv0 := [(0, .int xp0), (1, .int xp1)]) (by decide) (Nat.le_of_ble_eq_true rfl) rfl RX4 rfl (fun p e s m args below meth c A R hRm C hr hlk hnm => ?_)
  have hR : R.frames = 0 ∧ R.locals = 0 := by rw [hRm]; exact ⟨rfl, rfl⟩
  refine xr_getsN (host := "CardPayments") C 0 rfl wn_4 dX4_hasField_0 ?_
  refine xr_iload_n C dX4_hasField_3 0 rfl ?_
  obtain ⟨N2, f2, x3, e2, b2, v2, hm⟩ := hm
  refine xr_roi C 0 e2 b2 v2 dX4_hasField_4 ?_
  refine xr_iload_n C dX4_hasField_5 1 rfl ?_
  refine xr_ishr C dX4_hasField_6 ?_
  refine xr_iconst (v := 1) C dX4_hasField_7 rfl ?_
  refine xr_iand C dX4_hasField_8 ?_
  refine xr_iconst (v := 1) C dX4_hasField_9 rfl ?_
  refine xr_icmp_ne (tgt := 17) C dX4_hasField_10 (by decide) (fun q4 => ?_) (fun q4 => ?_)
  · replace hm := hm.2 q4
    refine xr_iconst (v := 0) C dX4_hasField_17 rfl ?_
    exact xr_zreturn C hr hlk (Or.inl rfl) hm dX4_hasField_18
  · replace hm := hm.1 q4
    refine xr_iconst (v := 1) C dX4_hasField_13 rfl ?_
    refine xr_goto (tgt := 18) C dX4_hasField_14 (by decide) ?_
    exact xr_zreturn C hr hlk (Or.inr rfl) hm dX4_hasField_18
set_option maxRecDepth 100000 in
set_option maxHeartbeats 4000000 in
theorem k_X4_writeField_L48 {p : Program} {l : Launch} {e : Env} {R : Room} {s : State} {m : MethodId} {args : Array Value} {below : List Frame} {meth : Method} {c : Code} {D : va_G} {E : Ev} {A : Nat → Prop} {KC KS : Nat} (C : XC p R s m args c D E A 6 RX4 cX4_writeField KC KS) (hr : meth.sig.returnType = none) (hlk : meth.locks = false) (hnm : meth.name = "writeField") (hR : R.frames = 0 ∧ R.locals = 0) {Q : Hp → Prop} : ∀ (n : Nat) (a0 : Nat) (yv2 : Int64) (xv4 : Int32) (xv5 : Int32) (h : Hp) (kc ks : Nat), m_X4_writeField_L48 n E a0 yv2 xv4 xv5 h kc ks Q → XW p l e R s m args below meth c (MQ below (va_Qv Q (XPost D A) A) args s KC KS A) D A KC KS 6 h kc ks [(0, .ref a0), (2, .long yv2), (4, .int xv4), (5, .int xv5)] 48 [] := by
  intro n
  induction n with
  | zero => intro a0 yv2 xv4 xv5 h kc ks hm; exact False.elim hm
  | succ n ih =>
    intro a0 yv2 xv4 xv5 h kc ks hm
    refine xr_iload C dX4_writeField_48 3 rfl ?_
    refine xr_iload C dX4_writeField_50 2 rfl ?_
    refine xr_icmp_ge (tgt := 92) C dX4_writeField_52 (by decide) (fun q22 => ?_) (fun q22 => ?_)
    · replace hm := hm.1 q22
      refine xr_aload_n (r := (some a0)) C dX4_writeField_92 0 rfl ?_
      refine xr_dup C dX4_writeField_93 rfl ?_
      obtain ⟨fs23, x24, e23, f23, hm⟩ := hm
      refine xr_get (ci := 5) C 4 e23 f23 rfl inX4 (by decide) wd_150 dX4_writeField_94 ?_
      refine xr_iconst (v := 2) C dX4_writeField_97 rfl ?_
      refine xr_iload C dX4_writeField_98 2 rfl ?_
      refine xr_iadd C dX4_writeField_100 ?_
      refine xr_iadd C dX4_writeField_101 ?_
      obtain ⟨fs25, e25, f25, h26, eh25, hm⟩ := hm
      refine xr_put (ci := 5) (v := .int (x24 + (2 + xv4))) C 4 .int tyX4 tyX4_ok nmX4 e25 f25 rfl inX4 (by decide) wd_150 rfl (by decide) rfl rfl eh25 dX4_writeField_102 ?_
      exact xr_vreturn C hr hlk hm dX4_writeField_105
    · replace hm := hm.2 q22
      refine xr_aload_n (r := (some a0)) C dX4_writeField_55 0 rfl ?_
      obtain ⟨fs27, r28, e27, f27, hm⟩ := hm
      refine xr_get (ci := 5) C 5 e27 f27 rfl inX4 (by decide) wd_137 dX4_writeField_56 ?_
      refine xr_aload_n (r := (some a0)) C dX4_writeField_59 0 rfl ?_
      obtain ⟨fs29, x30, e29, f29, hm⟩ := hm
      refine xr_get (ci := 5) C 4 e29 f29 rfl inX4 (by decide) wd_150 dX4_writeField_60 ?_
      refine xr_iconst (v := 2) C dX4_writeField_63 rfl ?_
      refine xr_iadd C dX4_writeField_64 ?_
      refine xr_iload C dX4_writeField_65 3 rfl ?_
      refine xr_iadd C dX4_writeField_67 ?_
      refine xr_lload_n C dX4_writeField_68 1 rfl ?_
      refine xr_bipush (v := 8) C dX4_writeField_69 rfl ?_
      refine xr_iload C dX4_writeField_71 2 rfl ?_
      refine xr_iconst (v := 1) C dX4_writeField_73 rfl ?_
      refine xr_isub C dX4_writeField_74 ?_
      refine xr_iload C dX4_writeField_75 3 rfl ?_
      refine xr_isub C dX4_writeField_77 ?_
      refine xr_imul C dX4_writeField_78 ?_
      refine xr_lshr (v := yv2 >>> ((8 * ((xv4 - 1) - xv5)).toInt64 &&& 63)) C dX4_writeField_79 rfl ?_
      refine xr_l2i (v := (yv2 >>> ((8 * ((xv4 - 1) - xv5)).toInt64 &&& 63)).toInt32) C dX4_writeField_80 rfl ?_
      refine xr_sipush (v := 255) C dX4_writeField_81 rfl ?_
      refine xr_iand C dX4_writeField_84 ?_
      refine xr_topi (fun x31 e32 => ?_)
      replace hm := hm x31 e32
      obtain ⟨a34, rfl, hm⟩ := hm
      obtain ⟨N33, f33, e33, b33, h35, v33, hm⟩ := hm
      refine xr_iast C 0 rfl e33 b33 v33 dX4_writeField_85 ?_
      refine xr_iinc (j := 3) (v := xv5 + 1) (lv' := [(5, .int (xv5 + 1)), (0, .ref a0), (2, .long yv2), (4, .int xv4)]) C dX4_writeField_86 rfl rfl (by decide) rfl ?_
      refine xr_goto (tgt := 48) C dX4_writeField_89 (by decide) ?_
      refine xr_sub [1, 2, 3, 0] rfl ?_
      exact ih a0 yv2 xv4 (xv5 + 1) _ _ _ hm
set_option maxRecDepth 100000 in
set_option maxHeartbeats 4000000 in
theorem c_X4_writeField {l : Launch} {D : va_G} {E : Ev} (a0 : Nat) (xp1 : Int32) (yp2 : Int64) (h : Hp) (kc ks : Nat) {Q : Hp → Prop} (hm : m_X4_writeField E a0 xp1 yp2 h kc ks Q) : XMet l yX4_writeField cX4_writeField 6 none 0 0 kc ks D E h [.ref a0, .int xp1, .long yp2] (fun A => va_Qv Q (XPost D A) A) := by
  refine xm_of (lv0 := [(0, .ref a0), (1, .int xp1), (2, .long yp2)]) (by decide) (Nat.le_of_ble_eq_true rfl) rfl RX4 rfl (fun p e s m args below meth c A R hRm C hr hlk hnm => ?_)
  have hR : R.frames = 0 ∧ R.locals = 0 := by rw [hRm]; exact ⟨rfl, rfl⟩
  refine xr_getsN (host := "CardPayments") C 1 rfl wn_5 dX4_writeField_0 ?_
  refine xr_iload_n C dX4_writeField_3 1 rfl ?_
  obtain ⟨N2, f2, x3, e2, b2, v2, hm⟩ := hm
  refine xr_roi C 1 e2 b2 v2 dX4_writeField_4 ?_
  refine xr_istore (lv' := [(4, .int x3), (0, .ref a0), (1, .int xp1), (2, .long yp2)]) C dX4_writeField_5 (by decide) rfl ?_
  refine xr_aload_n (r := (some a0)) C dX4_writeField_7 1 rfl ?_
  obtain ⟨fs4, x5, e4, f4, hm⟩ := hm
  refine xr_get (ci := 5) C 4 e4 f4 rfl inX4 (by decide) wd_150 dX4_writeField_8 ?_
  refine xr_iconst (v := 2) C dX4_writeField_11 rfl ?_
  refine xr_iadd C dX4_writeField_12 ?_
  refine xr_iload C dX4_writeField_13 0 rfl ?_
  refine xr_iadd C dX4_writeField_15 ?_
  refine xr_bipush (v := 64) C dX4_writeField_16 rfl ?_
  refine xr_icmp_le (tgt := 22) C dX4_writeField_18 (by decide) (fun q6 => ?_) (fun q6 => ?_)
  · replace hm := hm.1 q6
    refine xr_aload_n (r := (some a0)) C dX4_writeField_22 1 rfl ?_
    obtain ⟨fs7, r8, e7, f7, hm⟩ := hm
    refine xr_get (ci := 5) C 5 e7 f7 rfl inX4 (by decide) wd_137 dX4_writeField_23 ?_
    refine xr_aload_n (r := (some a0)) C dX4_writeField_26 1 rfl ?_
    obtain ⟨fs9, x10, e9, f9, hm⟩ := hm
    refine xr_get (ci := 5) C 4 e9 f9 rfl inX4 (by decide) wd_150 dX4_writeField_27 ?_
    refine xr_iload_n C dX4_writeField_30 2 rfl ?_
    obtain ⟨a12, rfl, hm⟩ := hm
    obtain ⟨N11, f11, e11, b11, h13, v11, hm⟩ := hm
    refine xr_iast C 0 rfl e11 b11 v11 dX4_writeField_31 ?_
    refine xr_aload_n (r := (some a0)) C dX4_writeField_32 1 rfl ?_
    obtain ⟨fs14, r15, e14, f14, hm⟩ := hm
    refine xr_get (ci := 5) C 5 e14 f14 rfl inX4 (by decide) wd_137 dX4_writeField_33 ?_
    refine xr_aload_n (r := (some a0)) C dX4_writeField_36 1 rfl ?_
    obtain ⟨fs16, x17, e16, f16, hm⟩ := hm
    refine xr_get (ci := 5) C 4 e16 f16 rfl inX4 (by decide) wd_150 dX4_writeField_37 ?_
    refine xr_iconst (v := 1) C dX4_writeField_40 rfl ?_
    refine xr_iadd C dX4_writeField_41 ?_
    refine xr_iload C dX4_writeField_42 0 rfl ?_
    obtain ⟨a19, rfl, hm⟩ := hm
    obtain ⟨N18, f18, e18, b18, h20, v18, hm⟩ := hm
    refine xr_iast C 0 rfl e18 b18 v18 dX4_writeField_44 ?_
    refine xr_iconst (v := 0) C dX4_writeField_45 rfl ?_
    refine xr_istore (lv' := [(5, .int 0), (4, .int x3), (0, .ref a0), (1, .int xp1), (2, .long yp2)]) C dX4_writeField_46 (by decide) rfl ?_
    obtain ⟨n21, hm⟩ := hm
    refine xr_sub [2, 4, 1, 0] rfl ?_
    exact k_X4_writeField_L48 C hr hlk hnm hR n21 a0 yp2 x3 0 _ _ _ hm
  · replace hm := hm.2 q6
    exact xr_vreturn C hr hlk hm dX4_writeField_21
