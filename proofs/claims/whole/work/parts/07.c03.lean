set_option maxRecDepth 100000 in
set_option maxHeartbeats 4000000 in
theorem c_X7_init {l : Launch} {D : va_G} {E : Ev} (a0 : Nat) (h : Hp) (kc ks : Nat) {Q : Hp → Prop} (hm : m_X7_init E a0 h kc ks Q) : XMet l yX7_init cX7_init 1 none 4 84 kc ks D E h [.ref a0] (fun A => va_Qv Q (XPost D A) A) := by
  refine xm_of (lv0 := [(0, .ref a0)]) (by decide) (Nat.le_of_ble_eq_true rfl) rfl RX7 rfl (fun p e s m args below meth c A R hRm C hr hlk hnm => ?_)
  have hR : R.frames = 4 ∧ R.locals = 84 := by rw [hRm]; exact ⟨rfl, rfl⟩
  refine xr_aload_n (r := (some a0)) C dX7_init_0 0 rfl ?_
  refine xr_obj C wd_383 wd_1 wd_2 (by rw [hR.1]; decide) (by rw [hR.2]; exact Nat.le_of_ble_eq_true rfl) dX7_init_1 ?_
  refine xr_aload_n (r := (some a0)) C dX7_init_4 0 rfl ?_
  obtain ⟨kc5, ks6, kk2, kl2, hm⟩ := hm
  refine xr_new (ci := 0) (fs := [.int 0, .null, .int 0]) C tyJx4a65c tyJx4a65c_ok rfl inJx4a65c wd_385 wd_295 wd_45 dvJx4a65c kk2 kl2 dX7_init_5 (fun a3 h4 na2 eh2 => ?_)
  replace hm := hm a3 h4 na2 eh2
  refine xr_dup C dX7_init_8 rfl ?_
  refine xr_cIv (n := 0) (As := []) (st := [.ref a3, .ref a0]) C (c_Jx4a65c_init_da8c8 a3 h4 0 0 hm) wd_384 wd_293 wd_45 wd_292 rfl (by decide +kernel) rfl (by rw [hR.1, hR.2]; decide) (Nat.zero_add _).symm (Nat.zero_add _).symm rfl (Nat.le_of_ble_eq_true rfl) dX7_init_9 (fun h9 hn => ?_)
  clear hm
  have hm := hn
  clear hn
  obtain ⟨fs10, e10, f10, h11, eh10, hm⟩ := hm
  refine xr_putF (ci := 8) (v := .ref a3) C 0 (.object "java/util/ArrayList") tyX7 tyX7_ok nmX7 e10 f10 rfl inX7 (by decide) wd_110 rfl hnm rfl (by decide) rfl rfl eh10 dX7_init_12 ?_
  refine xr_aload_n (r := (some a0)) C dX7_init_15 0 rfl ?_
  refine xr_bipush (v := 8) C dX7_init_16 rfl ?_
  obtain ⟨N12, kc15, ks16, b12, c12, z12, kk12, kl12, hm⟩ := hm
  refine xr_newa_long C 1 rfl wd_61 b12 c12 z12 kk12 kl12 dX7_init_18 (fun a13 h14 na12 eh12 => ?_)
  replace hm := hm a13 h14 na12 eh12
  obtain ⟨fs17, e17, f17, h18, eh17, hm⟩ := hm
  refine xr_putF (ci := 8) (v := .ref a13) C 1 (.array .long) tyX7 tyX7_ok nmX7 e17 f17 rfl inX7 (by decide) wd_24 rfl hnm rfl (by decide) rfl rfl eh17 dX7_init_20 ?_
  exact xr_vreturn C hr hlk hm dX7_init_23
set_option maxRecDepth 100000 in
set_option maxHeartbeats 4000000 in
theorem c_X8_init {l : Launch} {D : va_G} {E : Ev} (a0 : Nat) (rp1 : Option Nat) (xp2 : Int32) (yp3 : Int64) (yp5 : Int64) (h : Hp) (kc ks : Nat) {Q : Hp → Prop} (hm : m_X8_init E a0 rp1 xp2 yp3 yp5 h kc ks Q) : XMet l yX8_init cX8_init 7 none 4 84 kc ks D E h [.ref a0, va_rf rp1, .int xp2, .long yp3, .long yp5] (fun A => va_Qv Q (XPost D A) A) := by
  refine xm_of (lv0 := [(0, .ref a0), (1, va_rf rp1), (2, .int xp2), (3, .long yp3), (5, .long yp5)]) (by decide) (by simp [lg_sl, xv_cat, xv_ci, xv_cl, xv_cr, xv_cn]) (by simp [lv_args, xv_cat, xv_ci, xv_cl, xv_cr, xv_cn]) RX8 rfl (fun p e s m args below meth c A R hRm C hr hlk hnm => ?_)
  have hR : R.frames = 4 ∧ R.locals = 84 := by rw [hRm]; exact ⟨rfl, rfl⟩
  refine xr_aload_n (r := (some a0)) C dX8_init_0 0 rfl ?_
  refine xr_obj C wd_386 wd_1 wd_2 (by rw [hR.1]; decide) (by rw [hR.2]; exact Nat.le_of_ble_eq_true rfl) dX8_init_1 ?_
  refine xr_aload_n (r := (some a0)) C dX8_init_4 0 rfl ?_
  obtain ⟨kc5, ks6, kk2, kl2, hm⟩ := hm
  refine xr_new (ci := 0) (fs := [.int 0, .null, .int 0]) C tyJx4a65c tyJx4a65c_ok rfl inJx4a65c wd_398 wd_295 wd_45 dvJx4a65c kk2 kl2 dX8_init_5 (fun a3 h4 na2 eh2 => ?_)
  replace hm := hm a3 h4 na2 eh2
  refine xr_dup C dX8_init_8 rfl ?_
  refine xr_cIv (n := 0) (As := []) (st := [.ref a3, .ref a0]) C (c_Jx4a65c_init_da8c8 a3 h4 0 0 hm) wd_397 wd_293 wd_45 wd_292 rfl (by decide +kernel) rfl (by rw [hR.1, hR.2]; decide) (Nat.zero_add _).symm (Nat.zero_add _).symm rfl (Nat.le_of_ble_eq_true rfl) dX8_init_9 (fun h9 hn => ?_)
  clear hm
  have hm := hn
  clear hn
  obtain ⟨fs10, e10, f10, h11, eh10, hm⟩ := hm
  refine xr_putF (ci := 9) (v := .ref a3) C 4 (.object "java/util/ArrayList") tyX8 tyX8_ok nmX8 e10 f10 rfl inX8 (by decide) wd_387 rfl hnm rfl (by decide) rfl rfl eh10 dX8_init_12 ?_
  refine xr_aload_n (r := (some a0)) C dX8_init_15 0 rfl ?_
  refine xr_iconst (v := 0) C dX8_init_16 rfl ?_
  obtain ⟨fs12, e12, f12, h13, eh12, hm⟩ := hm
  refine xr_put (ci := 9) (v := .int 0) C 5 .int tyX8 tyX8_ok nmX8 e12 f12 rfl inX8 (by decide) wd_388 rfl (by decide) rfl rfl eh12 dX8_init_17 ?_
  refine xr_aload_n (r := (some a0)) C dX8_init_20 0 rfl ?_
  obtain ⟨kc17, ks18, kk14, kl14, hm⟩ := hm
  refine xr_new (ci := 6) (fs := [.int 0, .int 0, .long 0, .long 0, .int 0, .int 0, .int 0, .long 0]) C tyX5 tyX5_ok rfl inX5 wd_396 wd_18 wd_16 dvX5 kk14 kl14 dX8_init_21 (fun a15 h16 na14 eh14 => ?_)
  replace hm := hm a15 h16 na14 eh14
  refine xr_dup C dX8_init_24 rfl ?_
  refine xr_cINv (n := 0) (As := []) (st := [.ref a15, .ref a0]) C (c_X5_init a15 h16 0 0 hm) wn_7 wd_15 wd_16 wd_14 rfl (by decide +kernel) rfl (by rw [hR.1, hR.2]; decide) (Nat.zero_add _).symm (Nat.zero_add _).symm rfl (Nat.le_of_ble_eq_true rfl) dX8_init_25 (fun h21 hn => ?_)
  clear hm
  have hm := hn
  clear hn
  obtain ⟨fs22, e22, f22, h23, eh22, hm⟩ := hm
  refine xr_put (ci := 9) (v := .ref a15) C 9 (.object "CardPayments$Payment") tyX8 tyX8_ok nmX8 e22 f22 rfl inX8 (by decide) wd_389 rfl (by decide) rfl rfl eh22 dX8_init_28 ?_
  refine xr_aload_n (r := (some a0)) C dX8_init_31 0 rfl ?_
  refine xr_iconst (v := 0) C dX8_init_32 rfl ?_
  obtain ⟨fs24, e24, f24, h25, eh24, hm⟩ := hm
  refine xr_put (ci := 9) (v := .int 0) C 12 .int tyX8 tyX8_ok nmX8 e24 f24 rfl inX8 (by decide) wd_390 rfl (by decide) rfl rfl eh24 dX8_init_33 ?_
  refine xr_aload_n (r := (some a0)) C dX8_init_36 0 rfl ?_
  refine xr_aload_n (r := rp1) C dX8_init_37 1 rfl ?_
  obtain ⟨fs26, e26, f26, h27, eh26, hm⟩ := hm
  refine xr_putF (ci := 9) (v := va_rf rp1) C 0 (.object "CardPayments$World") tyX8 tyX8_ok nmX8 e26 f26 rfl inX8 (by decide) wd_391 rfl hnm rfl (by decide) (xv_narO _ _) (xv_fitO _ _) eh26 dX8_init_38 ?_
  refine xr_aload_n (r := (some a0)) C dX8_init_41 0 rfl ?_
  refine xr_iload_n C dX8_init_42 2 rfl ?_
  obtain ⟨fs28, e28, f28, h29, eh28, hm⟩ := hm
  refine xr_putF (ci := 9) (v := .int xp2) C 1 .int tyX8 tyX8_ok nmX8 e28 f28 rfl inX8 (by decide) wd_392 rfl hnm rfl (by decide) rfl rfl eh28 dX8_init_43 ?_
  refine xr_aload_n (r := (some a0)) C dX8_init_46 0 rfl ?_
  refine xr_lload_n C dX8_init_47 3 rfl ?_
  obtain ⟨fs30, e30, f30, h31, eh30, hm⟩ := hm
  refine xr_putF (ci := 9) (v := .long yp3) C 2 .long tyX8 tyX8_ok nmX8 e30 f30 rfl inX8 (by decide) wd_393 rfl hnm rfl (by decide) rfl rfl eh30 dX8_init_48 ?_
  refine xr_aload_n (r := (some a0)) C dX8_init_51 0 rfl ?_
  refine xr_lload C dX8_init_52 4 rfl ?_
  obtain ⟨fs32, e32, f32, h33, eh32, hm⟩ := hm
  refine xr_putF (ci := 9) (v := .long yp5) C 3 .long tyX8 tyX8_ok nmX8 e32 f32 rfl inX8 (by decide) wd_394 rfl hnm rfl (by decide) rfl rfl eh32 dX8_init_54 ?_
  refine xr_aload_n (r := (some a0)) C dX8_init_57 0 rfl ?_
  refine xr_sipush (v := 12345) C dX8_init_58 rfl ?_
  refine xr_iload_n C dX8_init_61 2 rfl ?_
  refine xr_iadd C dX8_init_62 ?_
  refine xr_i2l (v := (12345 + xp2).toInt64) C dX8_init_63 rfl ?_
  obtain ⟨fs34, e34, f34, h35, eh34, hm⟩ := hm
  refine xr_put (ci := 9) (v := .long ((12345 + xp2).toInt64)) C 6 .long tyX8 tyX8_ok nmX8 e34 f34 rfl inX8 (by decide) wd_395 rfl (by decide) rfl rfl eh34 dX8_init_64 ?_
  exact xr_vreturn C hr hlk hm dX8_init_67
set_option maxRecDepth 100000 in
set_option maxHeartbeats 4000000 in
theorem c_X8_waitFor {l : Launch} {D : va_G} {E : Ev} (a0 : Nat) (xp1 : Int32) (h : Hp) (kc ks : Nat) {Q : Hp → Prop} (hm : m_X8_waitFor E a0 xp1 h kc ks Q) : XMet l yX8_waitFor cX8_waitFor 2 none 0 0 kc ks D E h [.ref a0, .int xp1] (fun A => va_Qv Q (XPost D A) A) := by
  refine xm_of (lv0 := [(0, .ref a0), (1, .int xp1)]) (by decide) (Nat.le_of_ble_eq_true rfl) rfl RX8 rfl (fun p e s m args below meth c A R hRm C hr hlk hnm => ?_)
  have hR : R.frames = 0 ∧ R.locals = 0 := by rw [hRm]; exact ⟨rfl, rfl⟩
  refine xr_aload_n (r := (some a0)) C dX8_waitFor_0 0 rfl ?_
  refine xr_iload_n C dX8_waitFor_1 1 rfl ?_
  obtain ⟨fs1, e1, f1, h2, eh1, hm⟩ := hm
  refine xr_put (ci := 9) (v := .int xp1) C 12 .int tyX8 tyX8_ok nmX8 e1 f1 rfl inX8 (by decide) wd_390 rfl (by decide) rfl rfl eh1 dX8_waitFor_2 ?_
  refine xr_aload_n (r := (some a0)) C dX8_waitFor_5 0 rfl ?_
  refine xr_iconst (v := 0) C dX8_waitFor_6 rfl ?_
  obtain ⟨fs3, e3, f3, h4, eh3, hm⟩ := hm
  refine xr_put (ci := 9) (v := .int 0) C 13 .int tyX8 tyX8_ok nmX8 e3 f3 rfl inX8 (by decide) wd_399 rfl (by decide) rfl rfl eh3 dX8_waitFor_7 ?_
  exact xr_vreturn C hr hlk hm dX8_waitFor_10
set_option maxRecDepth 100000 in
set_option maxHeartbeats 4000000 in
theorem c_X8_sendToCard {l : Launch} {D : va_G} {E : Ev} (a0 : Nat) (xp1 : Int32) (xp2 : Int32) (h : Hp) (kc ks : Nat) {Q : Hp → Prop} (hm : m_X8_sendToCard E a0 xp1 xp2 h kc ks Q) : XMet l yX8_sendToCard cX8_sendToCard 3 none 4 95 kc ks D E h [.ref a0, .int xp1, .int xp2] (fun A => va_Qv Q (XPost D A) A) := by
  refine xm_of (lv0 := [(0, .ref a0), (1, .int xp1), (2, .int xp2)]) (by decide) (Nat.le_of_ble_eq_true rfl) rfl RX8 rfl (fun p e s m args below meth c A R hRm C hr hlk hnm => ?_)
  have hR : R.frames = 4 ∧ R.locals = 95 := by rw [hRm]; exact ⟨rfl, rfl⟩
  refine xr_aload_n (r := (some a0)) C dX8_sendToCard_0 0 rfl ?_
  obtain ⟨fs1, r2, e1, f1, hm⟩ := hm
  refine xr_get (ci := 9) C 0 e1 f1 rfl inX8 (by decide) wd_391 dX8_sendToCard_1 ?_
  refine xr_iload_n C dX8_sendToCard_4 1 rfl ?_
  refine xr_iconst (v := 1) C dX8_sendToCard_5 rfl ?_
  refine xr_aload_n (r := (some a0)) C dX8_sendToCard_6 0 rfl ?_
  obtain ⟨fs3, x4, e3, f3, hm⟩ := hm
  refine xr_get (ci := 9) C 1 e3 f3 rfl inX8 (by decide) wd_392 dX8_sendToCard_7 ?_
  refine xr_iconst (v := 0) C dX8_sendToCard_10 rfl ?_
  refine xr_aload_n (r := (some a0)) C dX8_sendToCard_11 0 rfl ?_
  obtain ⟨fs5, x6, e5, f5, hm⟩ := hm
  refine xr_get (ci := 9) C 7 e5 f5 rfl inX8 (by decide) wd_400 dX8_sendToCard_12 ?_
  obtain ⟨a14, rfl, hm⟩ := hm
  obtain ⟨⟨fs7, e7⟩, hm⟩ := hm
  obtain ⟨mc8, ms9, kc10, ks11, kk7, kl7, hm⟩ := hm
  refine xr_cVi (n := 5) (As := [.int xp1, .int 1, .int x4, .int 0, .int x6]) (st := []) C (c_X10_send a14 xp1 1 x4 0 x6 h mc8 ms9 hm) e7 rfl wd_406 wd_176 wd_177 wd_178 wd_175 (by decide +kernel) rfl (by rw [hR.1, hR.2]; decide) kk7 kl7 rfl (Nat.le_of_ble_eq_true rfl) dX8_sendToCard_15 (fun x12 h13 hn => ?_)
  clear hm
  have hm := hn
  clear hn
  refine xr_pop C dX8_sendToCard_18 rfl ?_
  refine xr_aload_n (r := (some a0)) C dX8_sendToCard_19 0 rfl ?_
  refine xr_iload_n C dX8_sendToCard_20 2 rfl ?_
  obtain ⟨⟨fs15, e15⟩, hm⟩ := hm
  refine xr_cVv (n := 1) (As := [.int xp2]) (st := []) C (c_X8_waitFor a0 xp2 h13 0 0 hm) e15 rfl wd_401 wd_403 wd_404 wd_405 wd_402 (by decide +kernel) rfl (by rw [hR.1, hR.2]; decide) (Nat.zero_add _).symm (Nat.zero_add _).symm rfl (Nat.le_of_ble_eq_true rfl) dX8_sendToCard_21 (fun h17 hn => ?_)
  clear hm
  have hm := hn
  clear hn
  exact xr_vreturn C hr hlk hm dX8_sendToCard_24
set_option maxRecDepth 100000 in
set_option maxHeartbeats 4000000 in
theorem c_X8_start {l : Launch} {D : va_G} {E : Ev} (a0 : Nat) (xp1 : Int32) (yp2 : Int64) (xp4 : Int32) (h : Hp) (kc ks : Nat) {Q : Int32 → Hp → Prop} (hm : m_X8_start E a0 xp1 yp2 xp4 h kc ks Q) : XMet l yX8_start cX8_start 5 (some .int) 7 191 kc ks D E h [.ref a0, .int xp1, .long yp2, .int xp4] (fun A => va_Qi Q (XPost D A) A) := by
  refine xm_of (lv0 := [(0, .ref a0), (1, .int xp1), (2, .long yp2), (4, .int xp4)]) (by decide) (Nat.le_of_ble_eq_true rfl) rfl RX8 rfl (fun p e s m args below meth c A R hRm C hr hlk hnm => ?_)
  have hR : R.frames = 7 ∧ R.locals = 191 := by rw [hRm]; exact ⟨rfl, rfl⟩
  refine xr_aload_n (r := (some a0)) C dX8_start_0 0 rfl ?_
  refine xr_aload_n (r := (some a0)) C dX8_start_1 0 rfl ?_
  obtain ⟨fs1, y2, e1, f1, hm⟩ := hm
  refine xr_get (ci := 9) C 6 e1 f1 rfl inX8 (by decide) wd_395 dX8_start_2 ?_
  refine xr_ldc2 (v := 1103515245) C dX8_start_5 wd_407 ?_
  refine xr_lmul C dX8_start_8 ?_
  refine xr_ldc2 (v := 12345) C dX8_start_9 wd_408 ?_
  refine xr_ladd C dX8_start_12 ?_
  refine xr_ldc2 (v := 2147483648) C dX8_start_13 wd_409 ?_
  refine xr_lrem C dX8_start_16 (by decide) ?_
  refine xr_topl (fun y3 e4 => ?_)
  replace hm := hm y3 e4
  obtain ⟨fs5, e5, f5, h6, eh5, hm⟩ := hm
  refine xr_put (ci := 9) (v := .long y3) C 6 .long tyX8 tyX8_ok nmX8 e5 f5 rfl inX8 (by decide) wd_395 rfl (by decide) rfl rfl eh5 dX8_start_17 ?_
  refine xr_aload_n (r := (some a0)) C dX8_start_20 0 rfl ?_
  refine xr_iload_n C dX8_start_21 1 rfl ?_
  obtain ⟨fs7, e7, f7, h8, eh7, hm⟩ := hm
  refine xr_put (ci := 9) (v := .int xp1) C 7 .int tyX8 tyX8_ok nmX8 e7 f7 rfl inX8 (by decide) wd_400 rfl (by decide) rfl rfl eh7 dX8_start_22 ?_
  refine xr_aload_n (r := (some a0)) C dX8_start_25 0 rfl ?_
  refine xr_iload C dX8_start_26 3 rfl ?_
  obtain ⟨fs9, e9, f9, h10, eh9, hm⟩ := hm
  refine xr_put (ci := 9) (v := .int xp4) C 8 .int tyX8 tyX8_ok nmX8 e9 f9 rfl inX8 (by decide) wd_410 rfl (by decide) rfl rfl eh9 dX8_start_28 ?_
  refine xr_aload_n (r := (some a0)) C dX8_start_31 0 rfl ?_
  refine xr_iconst (v := 0) C dX8_start_32 rfl ?_
  obtain ⟨fs11, e11, f11, h12, eh11, hm⟩ := hm
  refine xr_put (ci := 9) (v := .int 0) C 5 .int tyX8 tyX8_ok nmX8 e11 f11 rfl inX8 (by decide) wd_388 rfl (by decide) rfl rfl eh11 dX8_start_33 ?_
  refine xr_aload_n (r := (some a0)) C dX8_start_36 0 rfl ?_
  obtain ⟨kc16, ks17, kk13, kl13, hm⟩ := hm
  refine xr_new (ci := 6) (fs := [.int 0, .int 0, .long 0, .long 0, .int 0, .int 0, .int 0, .long 0]) C tyX5 tyX5_ok rfl inX5 wd_396 wd_18 wd_16 dvX5 kk13 kl13 dX8_start_37 (fun a14 h15 na13 eh13 => ?_)
  replace hm := hm a14 h15 na13 eh13
  refine xr_dup C dX8_start_40 rfl ?_
  refine xr_cINv (n := 0) (As := []) (st := [.ref a14, .ref a0]) C (c_X5_init a14 h15 0 0 hm) wn_7 wd_15 wd_16 wd_14 rfl (by decide +kernel) rfl (by rw [hR.1, hR.2]; decide) (Nat.zero_add _).symm (Nat.zero_add _).symm rfl (Nat.le_of_ble_eq_true rfl) dX8_start_41 (fun h20 hn => ?_)
  clear hm
  have hm := hn
  clear hn
  obtain ⟨fs21, e21, f21, h22, eh21, hm⟩ := hm
  refine xr_put (ci := 9) (v := .ref a14) C 9 (.object "CardPayments$Payment") tyX8 tyX8_ok nmX8 e21 f21 rfl inX8 (by decide) wd_389 rfl (by decide) rfl rfl eh21 dX8_start_44 ?_
  refine xr_aload_n (r := (some a0)) C dX8_start_47 0 rfl ?_
  obtain ⟨fs23, r24, e23, f23, hm⟩ := hm
  refine xr_get (ci := 9) C 9 e23 f23 rfl inX8 (by decide) wd_389 dX8_start_48 ?_
  refine xr_aload_n (r := (some a0)) C dX8_start_51 0 rfl ?_
  obtain ⟨fs25, x26, e25, f25, hm⟩ := hm
  refine xr_get (ci := 9) C 1 e25 f25 rfl inX8 (by decide) wd_392 dX8_start_52 ?_
  obtain ⟨a28, rfl, hm⟩ := hm
  obtain ⟨fs27, e27, f27, h29, eh27, hm⟩ := hm
  refine xr_put (ci := 6) (v := .int x26) C 4 .int tyX5 tyX5_ok nmX5 e27 f27 rfl inX5 (by decide) wd_411 rfl (by decide) rfl rfl eh27 dX8_start_55 ?_
  refine xr_aload_n (r := (some a0)) C dX8_start_58 0 rfl ?_
  obtain ⟨fs30, r31, e30, f30, hm⟩ := hm
  refine xr_get (ci := 9) C 9 e30 f30 rfl inX8 (by decide) wd_389 dX8_start_59 ?_
  refine xr_lload_n C dX8_start_62 2 rfl ?_
  obtain ⟨a33, rfl, hm⟩ := hm
  obtain ⟨fs32, e32, f32, h34, eh32, hm⟩ := hm
  refine xr_put (ci := 6) (v := .long yp2) C 2 .long tyX5 tyX5_ok nmX5 e32 f32 rfl inX5 (by decide) wd_412 rfl (by decide) rfl rfl eh32 dX8_start_63 ?_
  refine xr_aload_n (r := (some a0)) C dX8_start_66 0 rfl ?_
  obtain ⟨fs35, r36, e35, f35, hm⟩ := hm
  refine xr_get (ci := 9) C 9 e35 f35 rfl inX8 (by decide) wd_389 dX8_start_67 ?_
  refine xr_aload_n (r := (some a0)) C dX8_start_70 0 rfl ?_
  obtain ⟨fs37, y38, e37, f37, hm⟩ := hm
  refine xr_get (ci := 9) C 6 e37 f37 rfl inX8 (by decide) wd_395 dX8_start_71 ?_
  obtain ⟨a40, rfl, hm⟩ := hm
  obtain ⟨fs39, e39, f39, h41, eh39, hm⟩ := hm
  refine xr_put (ci := 6) (v := .long y38) C 3 .long tyX5 tyX5_ok nmX5 e39 f39 rfl inX5 (by decide) wd_413 rfl (by decide) rfl rfl eh39 dX8_start_74 ?_
  refine xr_aload_n (r := (some a0)) C dX8_start_77 0 rfl ?_
  obtain ⟨fs42, r43, e42, f42, hm⟩ := hm
  refine xr_get (ci := 9) C 0 e42 f42 rfl inX8 (by decide) wd_391 dX8_start_78 ?_
  obtain ⟨a45, rfl, hm⟩ := hm
  obtain ⟨fs44, r46, e44, f44, hm⟩ := hm
  refine xr_get (ci := 11) C 4 e44 f44 rfl inX10 (by decide) wd_414 dX8_start_81 ?_
  refine xr_aload_n (r := (some a0)) C dX8_start_84 0 rfl ?_
  obtain ⟨fs47, r48, e47, f47, hm⟩ := hm
  refine xr_get (ci := 9) C 9 e47 f47 rfl inX8 (by decide) wd_389 dX8_start_85 ?_
  obtain ⟨a56, rfl, hm⟩ := hm
  obtain ⟨⟨fs49, e49⟩, hm⟩ := hm
  obtain ⟨mc50, ms51, kc52, ks53, kk49, kl49, hm⟩ := hm
  refine xr_cVi (n := 1) (As := [va_rf r48]) (st := []) C (c_Jx4a65c_add_9ea2d a56 r48 h41 mc50 ms51 hm) e49 rfl wd_421 wd_117 wd_118 wd_45 wd_116 (by decide +kernel) rfl (by rw [hR.1, hR.2]; decide) kk49 kl49 rfl (Nat.le_of_ble_eq_true rfl) dX8_start_88 (fun x54 h55 hn => ?_)
  clear hm
  have hm := hn
  clear hn
  refine xr_pop C dX8_start_91 rfl ?_
  refine xr_aload_n (r := (some a0)) C dX8_start_92 0 rfl ?_
  obtain ⟨fs57, r58, e57, f57, hm⟩ := hm
  refine xr_get (ci := 9) C 0 e57 f57 rfl inX8 (by decide) wd_391 dX8_start_93 ?_
  obtain ⟨a60, rfl, hm⟩ := hm
  obtain ⟨fs59, r61, e59, f59, hm⟩ := hm
  refine xr_get (ci := 11) C 7 e59 f59 rfl inX10 (by decide) wd_415 dX8_start_96 ?_
  obtain ⟨a63, rfl, hm⟩ := hm
  obtain ⟨fs62, r64, e62, f62, hm⟩ := hm
  refine xr_get (ci := 3) C 3 e62 f62 rfl inX2 (by decide) wd_416 dX8_start_99 ?_
  refine xr_iconst (v := 4) C dX8_start_102 rfl ?_
  refine xr_aload_n (r := (some a0)) C dX8_start_103 0 rfl ?_
  obtain ⟨fs65, y66, e65, f65, hm⟩ := hm
  refine xr_get (ci := 9) C 6 e65 f65 rfl inX8 (by decide) wd_395 dX8_start_104 ?_
  obtain ⟨a68, rfl, hm⟩ := hm
  obtain ⟨N67, f67, e67, b67, h69, v67, hm⟩ := hm
  refine xr_last C 1 rfl e67 b67 v67 dX8_start_107 ?_
  refine xr_aload_n (r := (some a0)) C dX8_start_108 0 rfl ?_
  refine xr_iconst (v := 1) C dX8_start_109 rfl ?_
  refine xr_iconst (v := 2) C dX8_start_110 rfl ?_
  obtain ⟨⟨fs70, e70⟩, hm⟩ := hm
  obtain ⟨mc71, ms72, kc73, ks74, kk70, kl70, hm⟩ := hm
  refine xr_cVv (n := 2) (As := [.int 1, .int 2]) (st := []) C (c_X8_sendToCard a0 1 2 h69 mc71 ms72 hm) e70 rfl wd_417 wd_419 wd_420 wd_405 wd_418 (by decide +kernel) rfl (by rw [hR.1, hR.2]; decide) kk70 kl70 rfl (Nat.le_of_ble_eq_true rfl) dX8_start_111 (fun h76 hn => ?_)
  clear hm
  have hm := hn
  clear hn
  refine xr_aload_n (r := (some a0)) C dX8_start_114 0 rfl ?_
  obtain ⟨fs77, y78, e77, f77, hm⟩ := hm
  refine xr_get (ci := 9) C 6 e77 f77 rfl inX8 (by decide) wd_395 dX8_start_115 ?_
  refine xr_l2i (v := y78.toInt32) C dX8_start_118 rfl ?_
  exact xr_ireturn C hr hlk hm dX8_start_119
set_option maxRecDepth 100000 in
set_option maxHeartbeats 4000000 in
theorem c_X10_isCard {l : Launch} {D : va_G} {E : Ev} (a0 : Nat) (xp1 : Int32) (h : Hp) (kc ks : Nat) {Q : Int32 → Hp → Prop} (hm : m_X10_isCard E a0 xp1 h kc ks Q) : XMet l yX10_isCard cX10_isCard 2 (some .boolean) 1 20 kc ks D E h [.ref a0, .int xp1] (fun A => va_Qi Q (XPost D A) A) := by
  refine xm_of (lv0 := [(0, .ref a0), (1, .int xp1)]) (by decide) (Nat.le_of_ble_eq_true rfl) rfl RX10 rfl (fun p e s m args below meth c A R hRm C hr hlk hnm => ?_)
  have hR : R.frames = 1 ∧ R.locals = 20 := by rw [hRm]; exact ⟨rfl, rfl⟩
  refine xr_iload_n C dX10_isCard_0 1 rfl ?_
  refine xr_if_lt (tgt := 19) C dX10_isCard_1 (by decide) (fun q1 => ?_) (fun q1 => ?_)
  · replace hm := hm.1 q1
    refine xr_iconst (v := 0) C dX10_isCard_19 rfl ?_
    exact xr_zreturn C hr hlk (Or.inl rfl) hm dX10_isCard_20
  · replace hm := hm.2 q1
    refine xr_iload_n C dX10_isCard_4 1 rfl ?_
    refine xr_aload_n (r := (some a0)) C dX10_isCard_5 0 rfl ?_
    obtain ⟨fs2, r3, e2, f2, hm⟩ := hm
    refine xr_get (ci := 11) C 2 e2 f2 rfl inX10 (by decide) wd_422 dX10_isCard_6 ?_
    obtain ⟨a7, rfl, hm⟩ := hm
    obtain ⟨⟨fs4, e4⟩, hm⟩ := hm
    refine xr_cVi (n := 0) (As := []) (st := [.int xp1]) C (c_Jx4a65c_size_8abf5 a7 h 0 0 hm) e4 rfl wd_308 wd_113 wd_114 wd_45 wd_112 (by decide +kernel) rfl (by rw [hR.1, hR.2]; decide) (Nat.zero_add _).symm (Nat.zero_add _).symm rfl (Nat.le_of_ble_eq_true rfl) dX10_isCard_9 (fun x5 h6 hn => ?_)
    clear hm
    have hm := hn
    clear hn
    refine xr_icmp_ge (tgt := 19) C dX10_isCard_12 (by decide) (fun q8 => ?_) (fun q8 => ?_)
    · replace hm := hm.1 q8
      refine xr_iconst (v := 0) C dX10_isCard_19 rfl ?_
      exact xr_zreturn C hr hlk (Or.inl rfl) hm dX10_isCard_20
    · replace hm := hm.2 q8
      refine xr_iconst (v := 1) C dX10_isCard_15 rfl ?_
      refine xr_goto (tgt := 20) C dX10_isCard_16 (by decide) ?_
      exact xr_zreturn C hr hlk (Or.inr rfl) hm dX10_isCard_20
set_option maxRecDepth 100000 in
set_option maxHeartbeats 4000000 in
theorem c_X8_end {l : Launch} {D : va_G} {E : Ev} (a0 : Nat) (xp1 : Int32) (h : Hp) (kc ks : Nat) {Q : Hp → Prop} (hm : m_X8_end E a0 xp1 h kc ks Q) : XMet l yX8_end cX8_end 2 none 0 0 kc ks D E h [.ref a0, .int xp1] (fun A => va_Qv Q (XPost D A) A) := by
  refine xm_of (lv0 := [(0, .ref a0), (1, .int xp1)]) (by decide) (Nat.le_of_ble_eq_true rfl) rfl RX8 rfl (fun p e s m args below meth c A R hRm C hr hlk hnm => ?_)
  have hR : R.frames = 0 ∧ R.locals = 0 := by rw [hRm]; exact ⟨rfl, rfl⟩
  refine xr_aload_n (r := (some a0)) C dX8_end_0 0 rfl ?_
  refine xr_iload_n C dX8_end_1 1 rfl ?_
  obtain ⟨fs1, e1, f1, h2, eh1, hm⟩ := hm
  refine xr_put (ci := 9) (v := .int xp1) C 5 .int tyX8 tyX8_ok nmX8 e1 f1 rfl inX8 (by decide) wd_388 rfl (by decide) rfl rfl eh1 dX8_end_2 ?_
  refine xr_aload_n (r := (some a0)) C dX8_end_5 0 rfl ?_
  refine xr_iconst (v := 0) C dX8_end_6 rfl ?_
  obtain ⟨fs3, e3, f3, h4, eh3, hm⟩ := hm
  refine xr_put (ci := 9) (v := .int 0) C 12 .int tyX8 tyX8_ok nmX8 e3 f3 rfl inX8 (by decide) wd_390 rfl (by decide) rfl rfl eh3 dX8_end_7 ?_
  exact xr_vreturn C hr hlk hm dX8_end_10
set_option maxRecDepth 100000 in
set_option maxHeartbeats 4000000 in
theorem k_X8_ask_L97 {p : Program} {l : Launch} {e : Env} {R : Room} {s : State} {m : MethodId} {args : Array Value} {below : List Frame} {meth : Method} {c : Code} {D : va_G} {E : Ev} {A : Nat → Prop} {KC KS : Nat} (C : XC p R s m args c D E A 2 RX8 cX8_ask KC KS) (hr : meth.sig.returnType = none) (hlk : meth.locks = false) (hnm : meth.name = "ask") (hR : R.frames = 5 ∧ R.locals = 117) {Q : Hp → Prop} : ∀ (a0 : Nat) (s0 : Int64) (s1 : Int32) (s2 : Option Nat) (h : Hp) (kc ks : Nat), m_X8_ask_L97 E a0 s0 s1 s2 h kc ks Q → XW p l e R s m args below meth c (MQ below (va_Qv Q (XPost D A) A) args s KC KS A) D A KC KS 2 h kc ks [(0, .ref a0)] 97 [.long s0, .int s1, va_rf s2] := by
  intro a0 s0 s1 s2 h kc ks hm
  obtain ⟨a68, rfl, hm⟩ := hm
  obtain ⟨N67, f67, e67, b67, h69, v67, hm⟩ := hm
  refine xr_last C 1 rfl e67 b67 v67 dX8_ask_97 ?_
  refine xr_aload_n (r := (some a0)) C dX8_ask_98 0 rfl ?_
  refine xr_iconst (v := 5) C dX8_ask_99 rfl ?_
  refine xr_bipush (v := 6) C dX8_ask_100 rfl ?_
  obtain ⟨⟨fs70, e70⟩, hm⟩ := hm
  obtain ⟨mc71, ms72, kc73, ks74, kk70, kl70, hm⟩ := hm
  refine xr_cVv (n := 2) (As := [.int 5, .int 6]) (st := []) C (c_X8_sendToCard a0 5 6 h69 mc71 ms72 hm) e70 rfl wd_417 wd_419 wd_420 wd_405 wd_418 (by decide +kernel) rfl (by rw [hR.1, hR.2]; decide) kk70 kl70 rfl (Nat.le_of_ble_eq_true rfl) dX8_ask_102 (fun h76 hn => ?_)
  clear hm
  have hm := hn
  clear hn
  exact xr_vreturn C hr hlk hm dX8_ask_105
set_option maxRecDepth 100000 in
set_option maxHeartbeats 4000000 in
theorem c_X8_ask {l : Launch} {D : va_G} {E : Ev} (a0 : Nat) (xp1 : Int32) (h : Hp) (kc ks : Nat) {Q : Hp → Prop} (hm : m_X8_ask E a0 xp1 h kc ks Q) : XMet l yX8_ask cX8_ask 2 none 5 117 kc ks D E h [.ref a0, .int xp1] (fun A => va_Qv Q (XPost D A) A) := by
  refine xm_of (lv0 := [(0, .ref a0), (1, .int xp1)]) (by decide) (Nat.le_of_ble_eq_true rfl) rfl RX8 rfl (fun p e s m args below meth c A R hRm C hr hlk hnm => ?_)
  have hR : R.frames = 5 ∧ R.locals = 117 := by rw [hRm]; exact ⟨rfl, rfl⟩
  refine xr_aload_n (r := (some a0)) C dX8_ask_0 0 rfl ?_
  obtain ⟨fs1, r2, e1, f1, hm⟩ := hm
  refine xr_get (ci := 9) C 9 e1 f1 rfl inX8 (by decide) wd_389 dX8_ask_1 ?_
  refine xr_iload_n C dX8_ask_4 1 rfl ?_
  obtain ⟨a4, rfl, hm⟩ := hm
  obtain ⟨fs3, e3, f3, h5, eh3, hm⟩ := hm
  refine xr_put (ci := 6) (v := .int xp1) C 5 .int tyX5 tyX5_ok nmX5 e3 f3 rfl inX5 (by decide) wd_423 rfl (by decide) rfl rfl eh3 dX8_ask_5 ?_
  refine xr_aload_n (r := (some a0)) C dX8_ask_8 0 rfl ?_
  obtain ⟨fs6, r7, e6, f6, hm⟩ := hm
  refine xr_get (ci := 9) C 0 e6 f6 rfl inX8 (by decide) wd_391 dX8_ask_9 ?_
  obtain ⟨a9, rfl, hm⟩ := hm
  obtain ⟨fs8, r10, e8, f8, hm⟩ := hm
  refine xr_get (ci := 11) C 7 e8 f8 rfl inX10 (by decide) wd_415 dX8_ask_12 ?_
  obtain ⟨a12, rfl, hm⟩ := hm
  obtain ⟨fs11, r13, e11, f11, hm⟩ := hm
  refine xr_get (ci := 3) C 3 e11 f11 rfl inX2 (by decide) wd_416 dX8_ask_15 ?_
  refine xr_iconst (v := 3) C dX8_ask_18 rfl ?_
  refine xr_aload_n (r := (some a0)) C dX8_ask_19 0 rfl ?_
  obtain ⟨fs14, r15, e14, f14, hm⟩ := hm
  refine xr_get (ci := 9) C 9 e14 f14 rfl inX8 (by decide) wd_389 dX8_ask_20 ?_
  obtain ⟨a17, rfl, hm⟩ := hm
  obtain ⟨fs16, y18, e16, f16, hm⟩ := hm
  refine xr_get (ci := 6) C 2 e16 f16 rfl inX5 (by decide) wd_412 dX8_ask_23 ?_
  obtain ⟨a20, rfl, hm⟩ := hm
  obtain ⟨N19, f19, e19, b19, h21, v19, hm⟩ := hm
  refine xr_last C 1 rfl e19 b19 v19 dX8_ask_26 ?_
  refine xr_aload_n (r := (some a0)) C dX8_ask_27 0 rfl ?_
  obtain ⟨fs22, r23, e22, f22, hm⟩ := hm
  refine xr_get (ci := 9) C 0 e22 f22 rfl inX8 (by decide) wd_391 dX8_ask_28 ?_
  obtain ⟨a25, rfl, hm⟩ := hm
  obtain ⟨fs24, r26, e24, f24, hm⟩ := hm
  refine xr_get (ci := 11) C 7 e24 f24 rfl inX10 (by decide) wd_415 dX8_ask_31 ?_
  obtain ⟨a28, rfl, hm⟩ := hm
  obtain ⟨fs27, r29, e27, f27, hm⟩ := hm
  refine xr_get (ci := 3) C 3 e27 f27 rfl inX2 (by decide) wd_416 dX8_ask_34 ?_
  refine xr_iconst (v := 4) C dX8_ask_37 rfl ?_
  refine xr_aload_n (r := (some a0)) C dX8_ask_38 0 rfl ?_
  obtain ⟨fs30, r31, e30, f30, hm⟩ := hm
  refine xr_get (ci := 9) C 9 e30 f30 rfl inX8 (by decide) wd_389 dX8_ask_39 ?_
  obtain ⟨a33, rfl, hm⟩ := hm
  obtain ⟨fs32, y34, e32, f32, hm⟩ := hm
  refine xr_get (ci := 6) C 3 e32 f32 rfl inX5 (by decide) wd_413 dX8_ask_42 ?_
  obtain ⟨a36, rfl, hm⟩ := hm
  obtain ⟨N35, f35, e35, b35, h37, v35, hm⟩ := hm
  refine xr_last C 1 rfl e35 b35 v35 dX8_ask_45 ?_
  refine xr_aload_n (r := (some a0)) C dX8_ask_46 0 rfl ?_
  obtain ⟨fs38, r39, e38, f38, hm⟩ := hm
  refine xr_get (ci := 9) C 0 e38 f38 rfl inX8 (by decide) wd_391 dX8_ask_47 ?_
  obtain ⟨a41, rfl, hm⟩ := hm
  obtain ⟨fs40, r42, e40, f40, hm⟩ := hm
  refine xr_get (ci := 11) C 7 e40 f40 rfl inX10 (by decide) wd_415 dX8_ask_50 ?_
  obtain ⟨a44, rfl, hm⟩ := hm
  obtain ⟨fs43, r45, e43, f43, hm⟩ := hm
  refine xr_get (ci := 3) C 3 e43 f43 rfl inX2 (by decide) wd_416 dX8_ask_53 ?_
  refine xr_iconst (v := 5) C dX8_ask_56 rfl ?_
  refine xr_aload_n (r := (some a0)) C dX8_ask_57 0 rfl ?_
  obtain ⟨fs46, x47, e46, f46, hm⟩ := hm
  refine xr_get (ci := 9) C 1 e46 f46 rfl inX8 (by decide) wd_392 dX8_ask_58 ?_
  refine xr_i2l (v := x47.toInt64) C dX8_ask_61 rfl ?_
  obtain ⟨a49, rfl, hm⟩ := hm
  obtain ⟨N48, f48, e48, b48, h50, v48, hm⟩ := hm
  refine xr_last C 1 rfl e48 b48 v48 dX8_ask_62 ?_
  refine xr_aload_n (r := (some a0)) C dX8_ask_63 0 rfl ?_
  obtain ⟨fs51, r52, e51, f51, hm⟩ := hm
  refine xr_get (ci := 9) C 0 e51 f51 rfl inX8 (by decide) wd_391 dX8_ask_64 ?_
  obtain ⟨a54, rfl, hm⟩ := hm
  obtain ⟨fs53, r55, e53, f53, hm⟩ := hm
  refine xr_get (ci := 11) C 7 e53 f53 rfl inX10 (by decide) wd_415 dX8_ask_67 ?_
  obtain ⟨a57, rfl, hm⟩ := hm
  obtain ⟨fs56, r58, e56, f56, hm⟩ := hm
  refine xr_get (ci := 3) C 3 e56 f56 rfl inX2 (by decide) wd_416 dX8_ask_70 ?_
  refine xr_bipush (v := 7) C dX8_ask_73 rfl ?_
  refine xr_aload_n (r := (some a0)) C dX8_ask_75 0 rfl ?_
  obtain ⟨fs59, r60, e59, f59, hm⟩ := hm
  refine xr_get (ci := 9) C 9 e59 f59 rfl inX8 (by decide) wd_389 dX8_ask_76 ?_
  obtain ⟨a62, rfl, hm⟩ := hm
  obtain ⟨fs61, y63, e61, f61, hm⟩ := hm
  refine xr_get (ci := 6) C 2 e61 f61 rfl inX5 (by decide) wd_412 dX8_ask_79 ?_
  refine xr_aload_n (r := (some a0)) C dX8_ask_82 0 rfl ?_
  obtain ⟨fs64, y65, e64, f64, hm⟩ := hm
  refine xr_get (ci := 9) C 2 e64 f64 rfl inX8 (by decide) wd_393 dX8_ask_83 ?_
  refine xr_lcmp C dX8_ask_86 ?_
  refine xr_if_gt (tgt := 96) C dX8_ask_87 (by decide) (fun q66 => ?_) (fun q66 => ?_)
  · replace hm := hm.1 q66
    refine xr_lconst (v := 1) C dX8_ask_96 rfl ?_
    refine xr_sub [0] rfl ?_
    exact k_X8_ask_L97 C hr hlk hnm hR a0 1 7 r58 _ _ _ hm
  · replace hm := hm.2 q66
    refine xr_ldc2 (v := 2) C dX8_ask_90 wd_424 ?_
    refine xr_goto (tgt := 97) C dX8_ask_93 (by decide) ?_
    refine xr_sub [0] rfl ?_
    exact k_X8_ask_L97 C hr hlk hnm hR a0 2 7 r58 _ _ _ hm
set_option maxRecDepth 100000 in
set_option maxHeartbeats 4000000 in
theorem k_X8_takeCard_L55 {p : Program} {l : Launch} {e : Env} {R : Room} {s : State} {m : MethodId} {args : Array Value} {below : List Frame} {meth : Method} {c : Code} {D : va_G} {E : Ev} {A : Nat → Prop} {KC KS : Nat} (C : XC p R s m args c D E A 4 RX8 cX8_takeCard KC KS) (hr : meth.sig.returnType = none) (hlk : meth.locks = false) (hnm : meth.name = "takeCard") (hR : R.frames = 6 ∧ R.locals = 138) {Q : Hp → Prop} : ∀ (a0 : Nat) (h : Hp) (kc ks : Nat), m_X8_takeCard_L55 E a0 h kc ks Q → XW p l e R s m args below meth c (MQ below (va_Qv Q (XPost D A) A) args s KC KS A) D A KC KS 4 h kc ks [(0, .ref a0)] 55 [] := by
  intro a0 h kc ks hm
  refine xr_aload_n (r := (some a0)) C dX8_takeCard_55 0 rfl ?_
  refine xr_iconst (v := 3) C dX8_takeCard_56 rfl ?_
  obtain ⟨⟨fs81, e81⟩, hm⟩ := hm
  refine xr_cVv (n := 1) (As := [.int 3]) (st := []) C (c_X8_end a0 3 h 0 0 hm) e81 rfl wd_439 wd_441 wd_442 wd_405 wd_440 (by decide +kernel) rfl (by rw [hR.1, hR.2]; decide) (Nat.zero_add _).symm (Nat.zero_add _).symm rfl (Nat.le_of_ble_eq_true rfl) dX8_takeCard_57 (fun h83 hn => ?_)
  clear hm
  have hm := hn
  clear hn
  exact xr_vreturn C hr hlk hm dX8_takeCard_60
set_option maxRecDepth 100000 in
set_option maxHeartbeats 4000000 in
theorem c_X8_takeCard {l : Launch} {D : va_G} {E : Ev} (a0 : Nat) (rp1 : Option Nat) (h : Hp) (kc ks : Nat) {Q : Hp → Prop} (hm : m_X8_takeCard E a0 rp1 h kc ks Q) : XMet l yX8_takeCard cX8_takeCard 4 none 6 138 kc ks D E h [.ref a0, va_rf rp1] (fun A => va_Qv Q (XPost D A) A) := by
  refine xm_of (lv0 := [(0, .ref a0), (1, va_rf rp1)]) (by decide) (by simp [lg_sl, xv_cat, xv_ci, xv_cl, xv_cr, xv_cn]) (by simp [lv_args, xv_cat, xv_ci, xv_cl, xv_cr, xv_cn]) RX8 rfl (fun p e s m args below meth c A R hRm C hr hlk hnm => ?_)
  have hR : R.frames = 6 ∧ R.locals = 138 := by rw [hRm]; exact ⟨rfl, rfl⟩
  refine xr_aload_n (r := rp1) C dX8_takeCard_0 1 rfl ?_
  refine xr_iconst (v := 1) C dX8_takeCard_1 rfl ?_
  obtain ⟨a4, rfl, hm⟩ := hm
  obtain ⟨⟨fs1, e1⟩, hm⟩ := hm
  refine xr_cVi (n := 1) (As := [.int 1]) (st := []) C (c_X2_intField a4 1 h 0 0 hm) e1 rfl wd_438 wd_218 wd_219 wd_220 wd_217 (by decide +kernel) rfl (by rw [hR.1, hR.2]; decide) (Nat.zero_add _).symm (Nat.zero_add _).symm rfl (Nat.le_of_ble_eq_true rfl) dX8_takeCard_2 (fun x2 h3 hn => ?_)
  clear hm
  have hm := hn
  clear hn
  refine xr_istore_n (lv' := [(2, .int x2), (0, .ref a0), (1, .ref a4)]) C dX8_takeCard_5 (by decide) rfl ?_
  refine xr_aload_n (r := (some a4)) C dX8_takeCard_6 2 rfl ?_
  refine xr_iconst (v := 2) C dX8_takeCard_7 rfl ?_
  obtain ⟨⟨fs5, e5⟩, hm⟩ := hm
  refine xr_cVi (n := 1) (As := [.int 2]) (st := []) C (c_X2_intField a4 2 h3 0 0 hm) e5 rfl wd_438 wd_218 wd_219 wd_220 wd_217 (by decide +kernel) rfl (by rw [hR.1, hR.2]; decide) (Nat.zero_add _).symm (Nat.zero_add _).symm rfl (Nat.le_of_ble_eq_true rfl) dX8_takeCard_8 (fun x6 h7 hn => ?_)
  clear hm
  have hm := hn
  clear hn
  refine xr_istore_n (lv' := [(3, .int x6), (2, .int x2), (0, .ref a0), (1, .ref a4)]) C dX8_takeCard_11 (by decide) rfl ?_
  refine xr_aload_n (r := (some a0)) C dX8_takeCard_12 2 rfl ?_
  obtain ⟨fs8, r9, e8, f8, hm⟩ := hm
  refine xr_get (ci := 9) C 0 e8 f8 rfl inX8 (by decide) wd_391 dX8_takeCard_13 ?_
  refine xr_iload_n C dX8_takeCard_16 1 rfl ?_
  obtain ⟨a13, rfl, hm⟩ := hm
  obtain ⟨⟨fs10, e10⟩, hm⟩ := hm
  refine xr_cVi (n := 1) (As := [.int x2]) (st := []) C (c_X10_isCard a13 x2 h7 0 0 hm) e10 rfl wd_434 wd_436 wd_437 wd_178 wd_435 (by decide +kernel) rfl (by rw [hR.1, hR.2]; decide) (Nat.zero_add _).symm (Nat.zero_add _).symm rfl (Nat.le_of_ble_eq_true rfl) dX8_takeCard_17 (fun x11 h12 hn => ?_)
  clear hm
  have hm := hn
  clear hn
  refine xr_if_eq (tgt := 55) C dX8_takeCard_20 (by decide) (fun q14 => ?_) (fun q14 => ?_)
  · replace hm := hm.1 q14
    refine xr_sub [2] rfl ?_
    exact k_X8_takeCard_L55 C hr hlk hnm hR a0 _ _ _ hm
  · replace hm := hm.2 q14
    refine xr_aload_n (r := (some a0)) C dX8_takeCard_23 2 rfl ?_
    obtain ⟨fs15, r16, e15, f15, hm⟩ := hm
    refine xr_get (ci := 9) C 0 e15 f15 rfl inX8 (by decide) wd_391 dX8_takeCard_24 ?_
    obtain ⟨a18, rfl, hm⟩ := hm
    obtain ⟨fs17, r19, e17, f17, hm⟩ := hm
    refine xr_get (ci := 11) C 1 e17 f17 rfl inX10 (by decide) wd_425 dX8_takeCard_27 ?_
    refine xr_iload_n C dX8_takeCard_30 1 rfl ?_
    refine xr_iload_n C dX8_takeCard_31 0 rfl ?_
    refine xr_aload_n (r := (some a0)) C dX8_takeCard_32 2 rfl ?_
    obtain ⟨fs20, r21, e20, f20, hm⟩ := hm
    refine xr_get (ci := 9) C 9 e20 f20 rfl inX8 (by decide) wd_389 dX8_takeCard_33 ?_
    obtain ⟨a23, rfl, hm⟩ := hm
    obtain ⟨fs22, y24, e22, f22, hm⟩ := hm
    refine xr_get (ci := 6) C 3 e22 f22 rfl inX5 (by decide) wd_413 dX8_takeCard_36 ?_
    obtain ⟨a28, rfl, hm⟩ := hm
    obtain ⟨⟨fs25, e25⟩, hm⟩ := hm
    refine xr_cVq (n := 3) (As := [.int x2, .int x6, .long y24]) (st := []) C (c_X7_ofCard a28 x2 x6 y24 h12 0 0 hm) e25 rfl wd_433 wd_195 wd_196 wd_30 wd_194 (by decide +kernel) rfl (by rw [hR.1, hR.2]; decide) (Nat.zero_add _).symm (Nat.zero_add _).symm rfl (Nat.le_of_ble_eq_true rfl) dX8_takeCard_39 (fun r26 h27 hn => ?_)
    clear hm
    have hm := hn
    clear hn
    refine xr_aload_n (r := (some a4)) C dX8_takeCard_42 3 rfl ?_
    obtain ⟨fs29, r30, e29, f29, hm⟩ := hm
    refine xr_get (ci := 3) C 3 e29 f29 rfl inX2 (by decide) wd_416 dX8_takeCard_43 ?_
    refine xr_bipush (v := 8) C dX8_takeCard_46 rfl ?_
    obtain ⟨a32, rfl, hm⟩ := hm
    obtain ⟨N31, f31, y33, e31, b31, v31, hm⟩ := hm
    refine xr_lald C 1 rfl e31 b31 v31 dX8_takeCard_48 ?_
    obtain ⟨a37, rfl, hm⟩ := hm
    obtain ⟨⟨fs34, e34⟩, hm⟩ := hm
    refine xr_cVi (n := 1) (As := [.long y33]) (st := []) C (c_X7_isGood a37 y33 h27 0 0 hm) e34 rfl wd_432 wd_244 wd_245 wd_30 wd_243 (by decide +kernel) rfl (by rw [hR.1, hR.2]; decide) (Nat.zero_add _).symm (Nat.zero_add _).symm rfl (Nat.le_of_ble_eq_true rfl) dX8_takeCard_49 (fun x35 h36 hn => ?_)
    clear hm
    have hm := hn
    clear hn
    refine xr_if_ne (tgt := 61) C dX8_takeCard_52 (by decide) (fun q38 => ?_) (fun q38 => ?_)
    · replace hm := hm.2 q38
      refine xr_aload_n (r := (some a0)) C dX8_takeCard_61 2 rfl ?_
      obtain ⟨fs39, r40, e39, f39, hm⟩ := hm
      refine xr_get (ci := 9) C 9 e39 f39 rfl inX8 (by decide) wd_389 dX8_takeCard_62 ?_
      refine xr_iload_n C dX8_takeCard_65 1 rfl ?_
      obtain ⟨a42, rfl, hm⟩ := hm
      obtain ⟨fs41, e41, f41, h43, eh41, hm⟩ := hm
      refine xr_put (ci := 6) (v := .int x2) C 0 .int tyX5 tyX5_ok nmX5 e41 f41 rfl inX5 (by decide) wd_426 rfl (by decide) rfl rfl eh41 dX8_takeCard_66 ?_
      refine xr_aload_n (r := (some a0)) C dX8_takeCard_69 2 rfl ?_
      refine xr_iload_n C dX8_takeCard_70 0 rfl ?_
      obtain ⟨fs44, e44, f44, h45, eh44, hm⟩ := hm
      refine xr_put (ci := 9) (v := .int x6) C 10 .int tyX8 tyX8_ok nmX8 e44 f44 rfl inX8 (by decide) wd_427 rfl (by decide) rfl rfl eh44 dX8_takeCard_71 ?_
      refine xr_aload_n (r := (some a0)) C dX8_takeCard_74 2 rfl ?_
      obtain ⟨fs46, r47, e46, f46, hm⟩ := hm
      refine xr_get (ci := 9) C 9 e46 f46 rfl inX8 (by decide) wd_389 dX8_takeCard_75 ?_
      obtain ⟨a49, rfl, hm⟩ := hm
      obtain ⟨fs48, y50, e48, f48, hm⟩ := hm
      refine xr_get (ci := 6) C 2 e48 f48 rfl inX5 (by decide) wd_412 dX8_takeCard_78 ?_
      refine xr_aload_n (r := (some a0)) C dX8_takeCard_81 2 rfl ?_
      obtain ⟨fs51, y52, e51, f51, hm⟩ := hm
      refine xr_get (ci := 9) C 3 e51 f51 rfl inX8 (by decide) wd_394 dX8_takeCard_82 ?_
      refine xr_lcmp C dX8_takeCard_85 ?_
      refine xr_if_lt (tgt := 116) C dX8_takeCard_86 (by decide) (fun q53 => ?_) (fun q53 => ?_)
      · replace hm := hm.1 q53
        refine xr_aload_n (r := (some a0)) C dX8_takeCard_116 2 rfl ?_
        refine xr_iconst (v := 0) C dX8_takeCard_117 rfl ?_
        obtain ⟨⟨fs54, e54⟩, hm⟩ := hm
        obtain ⟨mc55, ms56, kc57, ks58, kk54, kl54, hm⟩ := hm
        refine xr_cVv (n := 1) (As := [.int 0]) (st := []) C (c_X8_ask a0 0 h45 mc55 ms56 hm) e54 rfl wd_428 wd_430 wd_431 wd_405 wd_429 (by decide +kernel) rfl (by rw [hR.1, hR.2]; decide) kk54 kl54 rfl (Nat.le_of_ble_eq_true rfl) dX8_takeCard_118 (fun h60 hn => ?_)
        clear hm
        have hm := hn
        clear hn
        exact xr_vreturn C hr hlk hm dX8_takeCard_121
      · replace hm := hm.2 q53
        refine xr_aload_n (r := (some a0)) C dX8_takeCard_89 2 rfl ?_
        obtain ⟨fs61, r62, e61, f61, hm⟩ := hm
        refine xr_get (ci := 9) C 0 e61 f61 rfl inX8 (by decide) wd_391 dX8_takeCard_90 ?_
        obtain ⟨a64, rfl, hm⟩ := hm
        obtain ⟨fs63, r65, e63, f63, hm⟩ := hm
        refine xr_get (ci := 11) C 7 e63 f63 rfl inX10 (by decide) wd_415 dX8_takeCard_93 ?_
        obtain ⟨a67, rfl, hm⟩ := hm
        obtain ⟨fs66, r68, e66, f66, hm⟩ := hm
        refine xr_get (ci := 3) C 3 e66 f66 rfl inX2 (by decide) wd_416 dX8_takeCard_96 ?_
        refine xr_bipush (v := 9) C dX8_takeCard_99 rfl ?_
        refine xr_aload_n (r := (some a0)) C dX8_takeCard_101 2 rfl ?_
        obtain ⟨fs69, x70, e69, f69, hm⟩ := hm
        refine xr_get (ci := 9) C 8 e69 f69 rfl inX8 (by decide) wd_410 dX8_takeCard_102 ?_
        refine xr_i2l (v := x70.toInt64) C dX8_takeCard_105 rfl ?_
        obtain ⟨a72, rfl, hm⟩ := hm
        obtain ⟨N71, f71, e71, b71, h73, v71, hm⟩ := hm
        refine xr_last C 1 rfl e71 b71 v71 dX8_takeCard_106 ?_
        refine xr_aload_n (r := (some a0)) C dX8_takeCard_107 2 rfl ?_
        refine xr_iconst (v := 3) C dX8_takeCard_108 rfl ?_
        refine xr_iconst (v := 4) C dX8_takeCard_109 rfl ?_
        obtain ⟨⟨fs74, e74⟩, hm⟩ := hm
        obtain ⟨mc75, ms76, kc77, ks78, kk74, kl74, hm⟩ := hm
        refine xr_cVv (n := 2) (As := [.int 3, .int 4]) (st := []) C (c_X8_sendToCard a0 3 4 h73 mc75 ms76 hm) e74 rfl wd_417 wd_419 wd_420 wd_405 wd_418 (by decide +kernel) rfl (by rw [hR.1, hR.2]; decide) kk74 kl74 rfl (Nat.le_of_ble_eq_true rfl) dX8_takeCard_110 (fun h80 hn => ?_)
        clear hm
        have hm := hn
        clear hn
        refine xr_goto (tgt := 121) C dX8_takeCard_113 (by decide) ?_
        exact xr_vreturn C hr hlk hm dX8_takeCard_121
    · replace hm := hm.1 q38
      refine xr_sub [2] rfl ?_
      exact k_X8_takeCard_L55 C hr hlk hnm hR a0 _ _ _ hm
set_option maxRecDepth 100000 in
set_option maxHeartbeats 4000000 in
theorem c_X8_takePinned {l : Launch} {D : va_G} {E : Ev} (a0 : Nat) (rp1 : Option Nat) (h : Hp) (kc ks : Nat) {Q : Hp → Prop} (hm : m_X8_takePinned E a0 rp1 h kc ks Q) : XMet l yX8_takePinned cX8_takePinned 2 none 6 138 kc ks D E h [.ref a0, va_rf rp1] (fun A => va_Qv Q (XPost D A) A) := by
  refine xm_of (lv0 := [(0, .ref a0), (1, va_rf rp1)]) (by decide) (by simp [lg_sl, xv_cat, xv_ci, xv_cl, xv_cr, xv_cn]) (by simp [lv_args, xv_cat, xv_ci, xv_cl, xv_cr, xv_cn]) RX8 rfl (fun p e s m args below meth c A R hRm C hr hlk hnm => ?_)
  have hR : R.frames = 6 ∧ R.locals = 138 := by rw [hRm]; exact ⟨rfl, rfl⟩
  refine xr_aload_n (r := rp1) C dX8_takePinned_0 1 rfl ?_
  obtain ⟨a2, rfl, hm⟩ := hm
  obtain ⟨fs1, r3, e1, f1, hm⟩ := hm
  refine xr_get (ci := 3) C 3 e1 f1 rfl inX2 (by decide) wd_416 dX8_takePinned_1 ?_
  refine xr_bipush (v := 6) C dX8_takePinned_4 rfl ?_
  obtain ⟨a5, rfl, hm⟩ := hm
  obtain ⟨N4, f4, y6, e4, b4, v4, hm⟩ := hm
  refine xr_lald C 1 rfl e4 b4 v4 dX8_takePinned_6 ?_
  refine xr_lconst (v := 1) C dX8_takePinned_7 rfl ?_
  refine xr_lcmp C dX8_takePinned_8 ?_
  refine xr_if_ne (tgt := 20) C dX8_takePinned_9 (by decide) (fun q7 => ?_) (fun q7 => ?_)
  · replace hm := hm.2 q7
    refine xr_aload_n (r := (some a0)) C dX8_takePinned_20 0 rfl ?_
    refine xr_iconst (v := 3) C dX8_takePinned_21 rfl ?_
    obtain ⟨⟨fs8, e8⟩, hm⟩ := hm
    refine xr_cVv (n := 1) (As := [.int 3]) (st := []) C (c_X8_end a0 3 h 0 0 hm) e8 rfl wd_439 wd_441 wd_442 wd_405 wd_440 (by decide +kernel) rfl (by rw [hR.1, hR.2]; decide) (Nat.zero_add _).symm (Nat.zero_add _).symm rfl (Nat.le_of_ble_eq_true rfl) dX8_takePinned_22 (fun h10 hn => ?_)
    clear hm
    have hm := hn
    clear hn
    exact xr_vreturn C hr hlk hm dX8_takePinned_25
  · replace hm := hm.1 q7
    refine xr_aload_n (r := (some a0)) C dX8_takePinned_12 0 rfl ?_
    refine xr_iconst (v := 1) C dX8_takePinned_13 rfl ?_
    obtain ⟨⟨fs11, e11⟩, hm⟩ := hm
    obtain ⟨mc12, ms13, kc14, ks15, kk11, kl11, hm⟩ := hm
    refine xr_cVv (n := 1) (As := [.int 1]) (st := []) C (c_X8_ask a0 1 h mc12 ms13 hm) e11 rfl wd_428 wd_430 wd_431 wd_405 wd_429 (by decide +kernel) rfl (by rw [hR.1, hR.2]; decide) kk11 kl11 rfl (Nat.le_of_ble_eq_true rfl) dX8_takePinned_14 (fun h17 hn => ?_)
    clear hm
    have hm := hn
    clear hn
    refine xr_goto (tgt := 25) C dX8_takePinned_17 (by decide) ?_
    exact xr_vreturn C hr hlk hm dX8_takePinned_25
set_option maxRecDepth 100000 in
set_option maxHeartbeats 4000000 in
theorem c_X8_sendToHost {l : Launch} {D : va_G} {E : Ev} (a0 : Nat) (xp1 : Int32) (rp2 : Option Nat) (h : Hp) (kc ks : Nat) {Q : Int32 → Hp → Prop} (hm : m_X8_sendToHost E a0 xp1 rp2 h kc ks Q) : XMet l yX8_sendToHost cX8_sendToHost 4 (some .boolean) 8 212 kc ks D E h [.ref a0, .int xp1, va_rf rp2] (fun A => va_Qi Q (XPost D A) A) := by
  refine xm_of (lv0 := [(0, .ref a0), (1, .int xp1), (2, va_rf rp2)]) (by decide) (by simp [lg_sl, xv_cat, xv_ci, xv_cl, xv_cr, xv_cn]) (by simp [lv_args, xv_cat, xv_ci, xv_cl, xv_cr, xv_cn]) RX8 rfl (fun p e s m args below meth c A R hRm C hr hlk hnm => ?_)
  have hR : R.frames = 8 ∧ R.locals = 212 := by rw [hRm]; exact ⟨rfl, rfl⟩
  refine xr_aload_n (r := (some a0)) C dX8_sendToHost_0 0 rfl ?_
  obtain ⟨fs1, r2, e1, f1, hm⟩ := hm
  refine xr_get (ci := 9) C 0 e1 f1 rfl inX8 (by decide) wd_391 dX8_sendToHost_1 ?_
  obtain ⟨a4, rfl, hm⟩ := hm
  obtain ⟨fs3, r5, e3, f3, hm⟩ := hm
  refine xr_get (ci := 11) C 7 e3 f3 rfl inX10 (by decide) wd_415 dX8_sendToHost_4 ?_
  obtain ⟨a7, rfl, hm⟩ := hm
  obtain ⟨fs6, r8, e6, f6, hm⟩ := hm
  refine xr_get (ci := 3) C 3 e6 f6 rfl inX2 (by decide) wd_416 dX8_sendToHost_7 ?_
  refine xr_astore_n (r := r8) (lv' := [(3, va_rf r8), (0, .ref a0), (1, .int xp1), (2, va_rf rp2)]) C dX8_sendToHost_10 (by decide) (by simp [xv_put1, xv_cat, xv_ci, xv_cl, xv_cr, xv_cn] <;> decide) ?_
  refine xr_aload_n (r := r8) C dX8_sendToHost_11 0 rfl ?_
  refine xr_iconst (v := 1) C dX8_sendToHost_12 rfl ?_
  refine xr_aload_n (r := rp2) C dX8_sendToHost_13 3 rfl ?_
  obtain ⟨a10, rfl, hm⟩ := hm
  obtain ⟨fs9, x11, e9, f9, hm⟩ := hm
  refine xr_get (ci := 6) C 0 e9 f9 rfl inX5 (by decide) wd_426 dX8_sendToHost_14 ?_
  refine xr_i2l (v := x11.toInt64) C dX8_sendToHost_17 rfl ?_
  obtain ⟨a13, rfl, hm⟩ := hm
  obtain ⟨N12, f12, e12, b12, h14, v12, hm⟩ := hm
  refine xr_last C 1 rfl e12 b12 v12 dX8_sendToHost_18 ?_
  refine xr_aload_n (r := (some a13)) C dX8_sendToHost_19 0 rfl ?_
  refine xr_iconst (v := 2) C dX8_sendToHost_20 rfl ?_
  refine xr_aload_n (r := (some a10)) C dX8_sendToHost_21 3 rfl ?_
  obtain ⟨fs15, x16, e15, f15, hm⟩ := hm
  refine xr_get (ci := 6) C 1 e15 f15 rfl inX5 (by decide) wd_443 dX8_sendToHost_22 ?_
  refine xr_i2l (v := x16.toInt64) C dX8_sendToHost_25 rfl ?_
  obtain ⟨N17, f17, e17, b17, h18, v17, hm⟩ := hm
  refine xr_last C 1 rfl e17 b17 v17 dX8_sendToHost_26 ?_
  refine xr_aload_n (r := (some a13)) C dX8_sendToHost_27 0 rfl ?_
  refine xr_iconst (v := 3) C dX8_sendToHost_28 rfl ?_
  refine xr_aload_n (r := (some a10)) C dX8_sendToHost_29 3 rfl ?_
  obtain ⟨fs19, y20, e19, f19, hm⟩ := hm
  refine xr_get (ci := 6) C 2 e19 f19 rfl inX5 (by decide) wd_412 dX8_sendToHost_30 ?_
  obtain ⟨N21, f21, e21, b21, h22, v21, hm⟩ := hm
  refine xr_last C 1 rfl e21 b21 v21 dX8_sendToHost_33 ?_
  refine xr_aload_n (r := (some a13)) C dX8_sendToHost_34 0 rfl ?_
  refine xr_iconst (v := 4) C dX8_sendToHost_35 rfl ?_
  refine xr_aload_n (r := (some a10)) C dX8_sendToHost_36 3 rfl ?_
  obtain ⟨fs23, y24, e23, f23, hm⟩ := hm
  refine xr_get (ci := 6) C 3 e23 f23 rfl inX5 (by decide) wd_413 dX8_sendToHost_37 ?_
  obtain ⟨N25, f25, e25, b25, h26, v25, hm⟩ := hm
  refine xr_last C 1 rfl e25 b25 v25 dX8_sendToHost_40 ?_
  refine xr_aload_n (r := (some a13)) C dX8_sendToHost_41 0 rfl ?_
  refine xr_iconst (v := 5) C dX8_sendToHost_42 rfl ?_
  refine xr_aload_n (r := (some a0)) C dX8_sendToHost_43 1 rfl ?_
  obtain ⟨fs27, x28, e27, f27, hm⟩ := hm
  refine xr_get (ci := 9) C 1 e27 f27 rfl inX8 (by decide) wd_392 dX8_sendToHost_44 ?_
  refine xr_i2l (v := x28.toInt64) C dX8_sendToHost_47 rfl ?_
  obtain ⟨N29, f29, e29, b29, h30, v29, hm⟩ := hm
  refine xr_last C 1 rfl e29 b29 v29 dX8_sendToHost_48 ?_
  refine xr_aload_n (r := (some a13)) C dX8_sendToHost_49 0 rfl ?_
  refine xr_bipush (v := 6) C dX8_sendToHost_50 rfl ?_
  refine xr_aload_n (r := (some a10)) C dX8_sendToHost_52 3 rfl ?_
  obtain ⟨fs31, x32, e31, f31, hm⟩ := hm
  refine xr_get (ci := 6) C 5 e31 f31 rfl inX5 (by decide) wd_423 dX8_sendToHost_53 ?_
  refine xr_i2l (v := x32.toInt64) C dX8_sendToHost_56 rfl ?_
  obtain ⟨N33, f33, e33, b33, h34, v33, hm⟩ := hm
  refine xr_last C 1 rfl e33 b33 v33 dX8_sendToHost_57 ?_
  refine xr_aload_n (r := (some a13)) C dX8_sendToHost_58 0 rfl ?_
  refine xr_bipush (v := 8) C dX8_sendToHost_59 rfl ?_
  refine xr_aload_n (r := (some a10)) C dX8_sendToHost_61 3 rfl ?_
  obtain ⟨fs35, y36, e35, f35, hm⟩ := hm
  refine xr_get (ci := 6) C 7 e35 f35 rfl inX5 (by decide) wd_444 dX8_sendToHost_62 ?_
  obtain ⟨N37, f37, e37, b37, h38, v37, hm⟩ := hm
  refine xr_last C 1 rfl e37 b37 v37 dX8_sendToHost_65 ?_
  refine xr_aload_n (r := (some a13)) C dX8_sendToHost_66 0 rfl ?_
  refine xr_bipush (v := 11) C dX8_sendToHost_67 rfl ?_
  refine xr_aload_n (r := (some a0)) C dX8_sendToHost_69 1 rfl ?_
  obtain ⟨fs39, r40, e39, f39, hm⟩ := hm
  refine xr_get (ci := 9) C 0 e39 f39 rfl inX8 (by decide) wd_391 dX8_sendToHost_70 ?_
  obtain ⟨a42, rfl, hm⟩ := hm
  obtain ⟨fs41, r43, e41, f41, hm⟩ := hm
  refine xr_get (ci := 11) C 1 e41 f41 rfl inX10 (by decide) wd_425 dX8_sendToHost_73 ?_
  refine xr_iload_n C dX8_sendToHost_76 2 rfl ?_
  refine xr_aload_n (r := (some a10)) C dX8_sendToHost_77 3 rfl ?_
  obtain ⟨a47, rfl, hm⟩ := hm
  obtain ⟨⟨fs44, e44⟩, hm⟩ := hm
  refine xr_cVq (n := 2) (As := [.int xp1, .ref a10]) (st := [.int 11, .ref a13]) C (c_X7_ofTerminal a47 xp1 (some a10) h38 0 0 hm) e44 rfl wd_446 wd_315 wd_316 wd_30 wd_314 (by decide +kernel) rfl (by rw [hR.1, hR.2]; decide) (Nat.zero_add _).symm (Nat.zero_add _).symm rfl (Nat.le_of_ble_eq_true rfl) dX8_sendToHost_78 (fun r45 h46 hn => ?_)
  clear hm
  have hm := hn
  clear hn
  obtain ⟨a55, rfl, hm⟩ := hm
  obtain ⟨⟨fs48, e48⟩, hm⟩ := hm
  obtain ⟨mc49, ms50, kc51, ks52, kk48, kl48, hm⟩ := hm
  refine xr_cVl (n := 0) (As := []) (st := [.int 11, .ref a13]) C (c_X7_seal a55 h46 mc49 ms50 hm) e48 rfl wd_445 wd_191 wd_192 wd_30 wd_190 (by decide +kernel) rfl (by rw [hR.1, hR.2]; decide) kk48 kl48 rfl (Nat.le_of_ble_eq_true rfl) dX8_sendToHost_81 (fun y53 h54 hn => ?_)
  clear hm
  have hm := hn
  clear hn
  obtain ⟨N56, f56, e56, b56, h57, v56, hm⟩ := hm
  refine xr_last C 1 rfl e56 b56 v56 dX8_sendToHost_84 ?_
  refine xr_aload_n (r := (some a0)) C dX8_sendToHost_85 1 rfl ?_
  obtain ⟨fs58, r59, e58, f58, hm⟩ := hm
  refine xr_get (ci := 9) C 0 e58 f58 rfl inX8 (by decide) wd_391 dX8_sendToHost_86 ?_
  refine xr_iload_n C dX8_sendToHost_89 2 rfl ?_
  refine xr_iconst (v := 1) C dX8_sendToHost_90 rfl ?_
  refine xr_aload_n (r := (some a0)) C dX8_sendToHost_91 1 rfl ?_
  obtain ⟨fs60, x61, e60, f60, hm⟩ := hm
  refine xr_get (ci := 9) C 1 e60 f60 rfl inX8 (by decide) wd_392 dX8_sendToHost_92 ?_
  refine xr_iconst (v := 2) C dX8_sendToHost_95 rfl ?_
  refine xr_iconst (v := 0) C dX8_sendToHost_96 rfl ?_
  obtain ⟨a69, rfl, hm⟩ := hm
  obtain ⟨⟨fs62, e62⟩, hm⟩ := hm
  obtain ⟨mc63, ms64, kc65, ks66, kk62, kl62, hm⟩ := hm
  refine xr_cVi (n := 5) (As := [.int xp1, .int 1, .int x61, .int 2, .int 0]) (st := []) C (c_X10_send a69 xp1 1 x61 2 0 h57 mc63 ms64 hm) e62 rfl wd_406 wd_176 wd_177 wd_178 wd_175 (by decide +kernel) rfl (by rw [hR.1, hR.2]; decide) kk62 kl62 rfl (Nat.le_of_ble_eq_true rfl) dX8_sendToHost_97 (fun x67 h68 hn => ?_)
  clear hm
  have hm := hn
  clear hn
  exact xr_zreturn C hr hlk hm.1 hm.2 dX8_sendToHost_100
set_option maxRecDepth 100000 in
set_option maxHeartbeats 4000000 in
theorem c_X8_isGoodWithoutHost {l : Launch} {D : va_G} {E : Ev} (a0 : Nat) (rp1 : Option Nat) (h : Hp) (kc ks : Nat) {Q : Int32 → Hp → Prop} (hm : m_X8_isGoodWithoutHost E a0 rp1 h kc ks Q) : XMet l yX8_isGoodWithoutHost cX8_isGoodWithoutHost 2 (some .boolean) 4 86 kc ks D E h [.ref a0, va_rf rp1] (fun A => va_Qi Q (XPost D A) A) := by
  refine xm_of (lv0 := [(0, .ref a0), (1, va_rf rp1)]) (by decide) (by simp [lg_sl, xv_cat, xv_ci, xv_cl, xv_cr, xv_cn]) (by simp [lv_args, xv_cat, xv_ci, xv_cl, xv_cr, xv_cn]) RX8 rfl (fun p e s m args below meth c A R hRm C hr hlk hnm => ?_)
  have hR : R.frames = 4 ∧ R.locals = 86 := by rw [hRm]; exact ⟨rfl, rfl⟩
  refine xr_aload_n (r := (some a0)) C dX8_isGoodWithoutHost_0 0 rfl ?_
  obtain ⟨fs1, r2, e1, f1, hm⟩ := hm
  refine xr_get (ci := 9) C 9 e1 f1 rfl inX8 (by decide) wd_389 dX8_isGoodWithoutHost_1 ?_
  obtain ⟨a4, rfl, hm⟩ := hm
  obtain ⟨fs3, x5, e3, f3, hm⟩ := hm
  refine xr_get (ci := 6) C 1 e3 f3 rfl inX5 (by decide) wd_443 dX8_isGoodWithoutHost_4 ?_
  refine xr_aload_n (r := (some a0)) C dX8_isGoodWithoutHost_7 0 rfl ?_
  obtain ⟨fs6, x7, e6, f6, hm⟩ := hm
  refine xr_get (ci := 9) C 10 e6 f6 rfl inX8 (by decide) wd_427 dX8_isGoodWithoutHost_8 ?_
  refine xr_icmp_ne (tgt := 64) C dX8_isGoodWithoutHost_11 (by decide) (fun q8 => ?_) (fun q8 => ?_)
  · replace hm := hm.2 q8
    refine xr_iconst (v := 0) C dX8_isGoodWithoutHost_64 rfl ?_
    exact xr_zreturn C hr hlk (Or.inl rfl) hm dX8_isGoodWithoutHost_65
  · replace hm := hm.1 q8
    refine xr_aload_n (r := rp1) C dX8_isGoodWithoutHost_14 1 rfl ?_
    obtain ⟨a10, rfl, hm⟩ := hm
    obtain ⟨fs9, r11, e9, f9, hm⟩ := hm
    refine xr_get (ci := 3) C 3 e9 f9 rfl inX2 (by decide) wd_416 dX8_isGoodWithoutHost_15 ?_
    refine xr_bipush (v := 6) C dX8_isGoodWithoutHost_18 rfl ?_
    obtain ⟨a13, rfl, hm⟩ := hm
    obtain ⟨N12, f12, y14, e12, b12, v12, hm⟩ := hm
    refine xr_lald C 1 rfl e12 b12 v12 dX8_isGoodWithoutHost_20 ?_
    refine xr_aload_n (r := (some a0)) C dX8_isGoodWithoutHost_21 0 rfl ?_
    obtain ⟨fs15, r16, e15, f15, hm⟩ := hm
    refine xr_get (ci := 9) C 9 e15 f15 rfl inX8 (by decide) wd_389 dX8_isGoodWithoutHost_22 ?_
    obtain ⟨a18, rfl, hm⟩ := hm
    obtain ⟨fs17, x19, e17, f17, hm⟩ := hm
    refine xr_get (ci := 6) C 5 e17 f17 rfl inX5 (by decide) wd_423 dX8_isGoodWithoutHost_25 ?_
    refine xr_i2l (v := x19.toInt64) C dX8_isGoodWithoutHost_28 rfl ?_
    refine xr_lcmp C dX8_isGoodWithoutHost_29 ?_
    refine xr_if_ne (tgt := 64) C dX8_isGoodWithoutHost_30 (by decide) (fun q20 => ?_) (fun q20 => ?_)
    · replace hm := hm.2 q20
      refine xr_iconst (v := 0) C dX8_isGoodWithoutHost_64 rfl ?_
      exact xr_zreturn C hr hlk (Or.inl rfl) hm dX8_isGoodWithoutHost_65
    · replace hm := hm.1 q20
      refine xr_aload_n (r := (some a0)) C dX8_isGoodWithoutHost_33 0 rfl ?_
      obtain ⟨fs21, r22, e21, f21, hm⟩ := hm
      refine xr_get (ci := 9) C 0 e21 f21 rfl inX8 (by decide) wd_391 dX8_isGoodWithoutHost_34 ?_
      obtain ⟨a24, rfl, hm⟩ := hm
      obtain ⟨fs23, r25, e23, f23, hm⟩ := hm
      refine xr_get (ci := 11) C 1 e23 f23 rfl inX10 (by decide) wd_425 dX8_isGoodWithoutHost_37 ?_
      refine xr_aload_n (r := (some a0)) C dX8_isGoodWithoutHost_40 0 rfl ?_
      obtain ⟨fs26, r27, e26, f26, hm⟩ := hm
      refine xr_get (ci := 9) C 9 e26 f26 rfl inX8 (by decide) wd_389 dX8_isGoodWithoutHost_41 ?_
      obtain ⟨a31, rfl, hm⟩ := hm
      obtain ⟨⟨fs28, e28⟩, hm⟩ := hm
      refine xr_cVq (n := 1) (As := [va_rf r27]) (st := []) C (c_X7_ofAnswer a31 r27 h 0 0 hm) e28 rfl wd_447 wd_239 wd_240 wd_30 wd_238 (by decide +kernel) rfl (by rw [hR.1, hR.2]; decide) (Nat.zero_add _).symm (Nat.zero_add _).symm rfl (Nat.le_of_ble_eq_true rfl) dX8_isGoodWithoutHost_44 (fun r29 h30 hn => ?_)
      clear hm
      have hm := hn
      clear hn
      refine xr_aload_n (r := (some a0)) C dX8_isGoodWithoutHost_47 0 rfl ?_
      obtain ⟨fs32, r33, e32, f32, hm⟩ := hm
      refine xr_get (ci := 9) C 9 e32 f32 rfl inX8 (by decide) wd_389 dX8_isGoodWithoutHost_48 ?_
      obtain ⟨a35, rfl, hm⟩ := hm
      obtain ⟨fs34, y36, e34, f34, hm⟩ := hm
      refine xr_get (ci := 6) C 7 e34 f34 rfl inX5 (by decide) wd_444 dX8_isGoodWithoutHost_51 ?_
      obtain ⟨a40, rfl, hm⟩ := hm
      obtain ⟨⟨fs37, e37⟩, hm⟩ := hm
      refine xr_cVi (n := 1) (As := [.long y36]) (st := []) C (c_X7_isGood a40 y36 h30 0 0 hm) e37 rfl wd_432 wd_244 wd_245 wd_30 wd_243 (by decide +kernel) rfl (by rw [hR.1, hR.2]; decide) (Nat.zero_add _).symm (Nat.zero_add _).symm rfl (Nat.le_of_ble_eq_true rfl) dX8_isGoodWithoutHost_54 (fun x38 h39 hn => ?_)
      clear hm
      have hm := hn
      clear hn
      refine xr_if_eq (tgt := 64) C dX8_isGoodWithoutHost_57 (by decide) (fun q41 => ?_) (fun q41 => ?_)
      · replace hm := hm.1 q41
        refine xr_iconst (v := 0) C dX8_isGoodWithoutHost_64 rfl ?_
        exact xr_zreturn C hr hlk (Or.inl rfl) hm dX8_isGoodWithoutHost_65
      · replace hm := hm.2 q41
        refine xr_iconst (v := 1) C dX8_isGoodWithoutHost_60 rfl ?_
        refine xr_goto (tgt := 65) C dX8_isGoodWithoutHost_61 (by decide) ?_
        exact xr_zreturn C hr hlk (Or.inr rfl) hm dX8_isGoodWithoutHost_65
set_option maxRecDepth 100000 in
set_option maxHeartbeats 4000000 in
theorem k_X8_takeAnswer_L109 {p : Program} {l : Launch} {e : Env} {R : Room} {s : State} {m : MethodId} {args : Array Value} {below : List Frame} {meth : Method} {c : Code} {D : va_G} {E : Ev} {A : Nat → Prop} {KC KS : Nat} (C : XC p R s m args c D E A 2 RX8 cX8_takeAnswer KC KS) (hr : meth.sig.returnType = none) (hlk : meth.locks = false) (hnm : meth.name = "takeAnswer") (hR : R.frames = 9 ∧ R.locals = 235) {Q : Hp → Prop} : ∀ (a0 : Nat) (h : Hp) (kc ks : Nat), m_X8_takeAnswer_L109 E a0 h kc ks Q → XW p l e R s m args below meth c (MQ below (va_Qv Q (XPost D A) A) args s KC KS A) D A KC KS 2 h kc ks [(0, .ref a0)] 109 [] := by
  intro a0 h kc ks hm
  refine xr_aload_n (r := (some a0)) C dX8_takeAnswer_109 0 rfl ?_
  refine xr_iconst (v := 3) C dX8_takeAnswer_110 rfl ?_
  obtain ⟨⟨fs71, e71⟩, hm⟩ := hm
  refine xr_cVv (n := 1) (As := [.int 3]) (st := []) C (c_X8_end a0 3 h 0 0 hm) e71 rfl wd_439 wd_441 wd_442 wd_405 wd_440 (by decide +kernel) rfl (by rw [hR.1, hR.2]; decide) (Nat.zero_add _).symm (Nat.zero_add _).symm rfl (Nat.le_of_ble_eq_true rfl) dX8_takeAnswer_111 (fun h73 hn => ?_)
  clear hm
  have hm := hn
  clear hn
  exact xr_vreturn C hr hlk hm dX8_takeAnswer_114
set_option maxRecDepth 100000 in
set_option maxHeartbeats 4000000 in
theorem c_X8_takeAnswer {l : Launch} {D : va_G} {E : Ev} (a0 : Nat) (rp1 : Option Nat) (h : Hp) (kc ks : Nat) {Q : Hp → Prop} (hm : m_X8_takeAnswer E a0 rp1 h kc ks Q) : XMet l yX8_takeAnswer cX8_takeAnswer 2 none 9 235 kc ks D E h [.ref a0, va_rf rp1] (fun A => va_Qv Q (XPost D A) A) := by
  refine xm_of (lv0 := [(0, .ref a0), (1, va_rf rp1)]) (by decide) (by simp [lg_sl, xv_cat, xv_ci, xv_cl, xv_cr, xv_cn]) (by simp [lv_args, xv_cat, xv_ci, xv_cl, xv_cr, xv_cn]) RX8 rfl (fun p e s m args below meth c A R hRm C hr hlk hnm => ?_)
  have hR : R.frames = 9 ∧ R.locals = 235 := by rw [hRm]; exact ⟨rfl, rfl⟩
  refine xr_aload_n (r := (some a0)) C dX8_takeAnswer_0 0 rfl ?_
  obtain ⟨fs1, r2, e1, f1, hm⟩ := hm
  refine xr_get (ci := 9) C 9 e1 f1 rfl inX8 (by decide) wd_389 dX8_takeAnswer_1 ?_
  refine xr_aload_n (r := rp1) C dX8_takeAnswer_4 1 rfl ?_
  refine xr_iconst (v := 2) C dX8_takeAnswer_5 rfl ?_
  obtain ⟨a6, rfl, hm⟩ := hm
  obtain ⟨⟨fs3, e3⟩, hm⟩ := hm
  refine xr_cVi (n := 1) (As := [.int 2]) (st := [va_rf r2]) C (c_X2_intField a6 2 h 0 0 hm) e3 rfl wd_438 wd_218 wd_219 wd_220 wd_217 (by decide +kernel) rfl (by rw [hR.1, hR.2]; decide) (Nat.zero_add _).symm (Nat.zero_add _).symm rfl (by simp [xv_cat, xv_ci, xv_cl, xv_cr, xv_cn]) dX8_takeAnswer_6 (fun x4 h5 hn => ?_)
  clear hm
  have hm := hn
  clear hn
  obtain ⟨a8, rfl, hm⟩ := hm
  obtain ⟨fs7, e7, f7, h9, eh7, hm⟩ := hm
  refine xr_put (ci := 6) (v := .int x4) C 1 .int tyX5 tyX5_ok nmX5 e7 f7 rfl inX5 (by decide) wd_443 rfl (by decide) rfl rfl eh7 dX8_takeAnswer_9 ?_
  refine xr_aload_n (r := (some a0)) C dX8_takeAnswer_12 0 rfl ?_
  obtain ⟨fs10, r11, e10, f10, hm⟩ := hm
  refine xr_get (ci := 9) C 9 e10 f10 rfl inX8 (by decide) wd_389 dX8_takeAnswer_13 ?_
  refine xr_aload_n (r := (some a6)) C dX8_takeAnswer_16 1 rfl ?_
  refine xr_bipush (v := 7) C dX8_takeAnswer_17 rfl ?_
  obtain ⟨⟨fs12, e12⟩, hm⟩ := hm
  refine xr_cVi (n := 1) (As := [.int 7]) (st := [va_rf r11]) C (c_X2_intField a6 7 h9 0 0 hm) e12 rfl wd_438 wd_218 wd_219 wd_220 wd_217 (by decide +kernel) rfl (by rw [hR.1, hR.2]; decide) (Nat.zero_add _).symm (Nat.zero_add _).symm rfl (by simp [xv_cat, xv_ci, xv_cl, xv_cr, xv_cn]) dX8_takeAnswer_19 (fun x13 h14 hn => ?_)
  clear hm
  have hm := hn
  clear hn
  obtain ⟨a16, rfl, hm⟩ := hm
  obtain ⟨fs15, e15, f15, h17, eh15, hm⟩ := hm
  refine xr_put (ci := 6) (v := .int x13) C 6 .int tyX5 tyX5_ok nmX5 e15 f15 rfl inX5 (by decide) wd_448 rfl (by decide) rfl rfl eh15 dX8_takeAnswer_22 ?_
  refine xr_aload_n (r := (some a0)) C dX8_takeAnswer_25 0 rfl ?_
  obtain ⟨fs18, r19, e18, f18, hm⟩ := hm
  refine xr_get (ci := 9) C 9 e18 f18 rfl inX8 (by decide) wd_389 dX8_takeAnswer_26 ?_
  refine xr_aload_n (r := (some a6)) C dX8_takeAnswer_29 1 rfl ?_
  obtain ⟨fs20, r21, e20, f20, hm⟩ := hm
  refine xr_get (ci := 3) C 3 e20 f20 rfl inX2 (by decide) wd_416 dX8_takeAnswer_30 ?_
  refine xr_bipush (v := 8) C dX8_takeAnswer_33 rfl ?_
  obtain ⟨a23, rfl, hm⟩ := hm
  obtain ⟨N22, f22, y24, e22, b22, v22, hm⟩ := hm
  refine xr_lald C 1 rfl e22 b22 v22 dX8_takeAnswer_35 ?_
  obtain ⟨a26, rfl, hm⟩ := hm
  obtain ⟨fs25, e25, f25, h27, eh25, hm⟩ := hm
  refine xr_put (ci := 6) (v := .long y24) C 7 .long tyX5 tyX5_ok nmX5 e25 f25 rfl inX5 (by decide) wd_444 rfl (by decide) rfl rfl eh25 dX8_takeAnswer_36 ?_
  refine xr_aload_n (r := (some a0)) C dX8_takeAnswer_39 0 rfl ?_
  obtain ⟨fs28, r29, e28, f28, hm⟩ := hm
  refine xr_get (ci := 9) C 9 e28 f28 rfl inX8 (by decide) wd_389 dX8_takeAnswer_40 ?_
  obtain ⟨a31, rfl, hm⟩ := hm
  obtain ⟨fs30, x32, e30, f30, hm⟩ := hm
  refine xr_get (ci := 6) C 6 e30 f30 rfl inX5 (by decide) wd_448 dX8_takeAnswer_43 ?_
  refine xr_iconst (v := 1) C dX8_takeAnswer_46 rfl ?_
  refine xr_icmp_ne (tgt := 70) C dX8_takeAnswer_47 (by decide) (fun q33 => ?_) (fun q33 => ?_)
  · replace hm := hm.2 q33
    refine xr_aload_n (r := (some a0)) C dX8_takeAnswer_70 0 rfl ?_
    obtain ⟨fs34, r35, e34, f34, hm⟩ := hm
    refine xr_get (ci := 9) C 9 e34 f34 rfl inX8 (by decide) wd_389 dX8_takeAnswer_71 ?_
    obtain ⟨a37, rfl, hm⟩ := hm
    obtain ⟨fs36, x38, e36, f36, hm⟩ := hm
    refine xr_get (ci := 6) C 6 e36 f36 rfl inX5 (by decide) wd_448 dX8_takeAnswer_74 ?_
    refine xr_iconst (v := 2) C dX8_takeAnswer_77 rfl ?_
    refine xr_icmp_ne (tgt := 109) C dX8_takeAnswer_78 (by decide) (fun q39 => ?_) (fun q39 => ?_)
    · replace hm := hm.2 q39
      refine xr_sub [0] rfl ?_
      exact k_X8_takeAnswer_L109 C hr hlk hnm hR a0 _ _ _ hm
    · replace hm := hm.1 q39
      refine xr_aload_n (r := (some a0)) C dX8_takeAnswer_81 0 rfl ?_
      refine xr_aload_n (r := (some a6)) C dX8_takeAnswer_82 1 rfl ?_
      obtain ⟨⟨fs40, e40⟩, hm⟩ := hm
      refine xr_cVi (n := 1) (As := [.ref a6]) (st := []) C (c_X8_isGoodWithoutHost a0 (some a6) h27 0 0 hm) e40 rfl wd_449 wd_451 wd_452 wd_405 wd_450 (by decide +kernel) rfl (by rw [hR.1, hR.2]; decide) (Nat.zero_add _).symm (Nat.zero_add _).symm rfl (Nat.le_of_ble_eq_true rfl) dX8_takeAnswer_83 (fun x41 h42 hn => ?_)
      clear hm
      have hm := hn
      clear hn
      refine xr_if_eq (tgt := 109) C dX8_takeAnswer_86 (by decide) (fun q43 => ?_) (fun q43 => ?_)
      · replace hm := hm.1 q43
        refine xr_sub [0] rfl ?_
        exact k_X8_takeAnswer_L109 C hr hlk hnm hR a0 _ _ _ hm
      · replace hm := hm.2 q43
        refine xr_aload_n (r := (some a0)) C dX8_takeAnswer_89 0 rfl ?_
        obtain ⟨fs44, r45, e44, f44, hm⟩ := hm
        refine xr_get (ci := 9) C 4 e44 f44 rfl inX8 (by decide) wd_387 dX8_takeAnswer_90 ?_
        refine xr_aload_n (r := (some a0)) C dX8_takeAnswer_93 0 rfl ?_
        obtain ⟨fs46, r47, e46, f46, hm⟩ := hm
        refine xr_get (ci := 9) C 9 e46 f46 rfl inX8 (by decide) wd_389 dX8_takeAnswer_94 ?_
        obtain ⟨a55, rfl, hm⟩ := hm
        obtain ⟨⟨fs48, e48⟩, hm⟩ := hm
        obtain ⟨mc49, ms50, kc51, ks52, kk48, kl48, hm⟩ := hm
        refine xr_cVi (n := 1) (As := [va_rf r47]) (st := []) C (c_Jx4a65c_add_9ea2d a55 r47 h42 mc49 ms50 hm) e48 rfl wd_421 wd_117 wd_118 wd_45 wd_116 (by decide +kernel) rfl (by rw [hR.1, hR.2]; decide) kk48 kl48 rfl (Nat.le_of_ble_eq_true rfl) dX8_takeAnswer_97 (fun x53 h54 hn => ?_)
        clear hm
        have hm := hn
        clear hn
        refine xr_pop C dX8_takeAnswer_100 rfl ?_
        refine xr_aload_n (r := (some a0)) C dX8_takeAnswer_101 0 rfl ?_
        refine xr_iconst (v := 2) C dX8_takeAnswer_102 rfl ?_
        obtain ⟨⟨fs56, e56⟩, hm⟩ := hm
        refine xr_cVv (n := 1) (As := [.int 2]) (st := []) C (c_X8_end a0 2 h54 0 0 hm) e56 rfl wd_439 wd_441 wd_442 wd_405 wd_440 (by decide +kernel) rfl (by rw [hR.1, hR.2]; decide) (Nat.zero_add _).symm (Nat.zero_add _).symm rfl (Nat.le_of_ble_eq_true rfl) dX8_takeAnswer_103 (fun h58 hn => ?_)
        clear hm
        have hm := hn
        clear hn
        refine xr_goto (tgt := 114) C dX8_takeAnswer_106 (by decide) ?_
        exact xr_vreturn C hr hlk hm dX8_takeAnswer_114
  · replace hm := hm.1 q33
    refine xr_aload_n (r := (some a0)) C dX8_takeAnswer_50 0 rfl ?_
    refine xr_bipush (v := 7) C dX8_takeAnswer_51 rfl ?_
    refine xr_aload_n (r := (some a0)) C dX8_takeAnswer_53 0 rfl ?_
    obtain ⟨fs59, r60, e59, f59, hm⟩ := hm
    refine xr_get (ci := 9) C 9 e59 f59 rfl inX8 (by decide) wd_389 dX8_takeAnswer_54 ?_
    obtain ⟨⟨fs61, e61⟩, hm⟩ := hm
    obtain ⟨mc62, ms63, kc64, ks65, kk61, kl61, hm⟩ := hm
    refine xr_cVi (n := 2) (As := [.int 7, va_rf r60]) (st := []) C (c_X8_sendToHost a0 7 r60 h27 mc62 ms63 hm) e61 rfl wd_453 wd_455 wd_456 wd_405 wd_454 (by decide +kernel) rfl (by rw [hR.1, hR.2]; decide) kk61 kl61 rfl (Nat.le_of_ble_eq_true rfl) dX8_takeAnswer_57 (fun x66 h67 hn => ?_)
    clear hm
    have hm := hn
    clear hn
    refine xr_pop C dX8_takeAnswer_60 rfl ?_
    refine xr_aload_n (r := (some a0)) C dX8_takeAnswer_61 0 rfl ?_
    refine xr_bipush (v := 8) C dX8_takeAnswer_62 rfl ?_
    obtain ⟨⟨fs68, e68⟩, hm⟩ := hm
    refine xr_cVv (n := 1) (As := [.int 8]) (st := []) C (c_X8_waitFor a0 8 h67 0 0 hm) e68 rfl wd_401 wd_403 wd_404 wd_405 wd_402 (by decide +kernel) rfl (by rw [hR.1, hR.2]; decide) (Nat.zero_add _).symm (Nat.zero_add _).symm rfl (Nat.le_of_ble_eq_true rfl) dX8_takeAnswer_64 (fun h70 hn => ?_)
    clear hm
    have hm := hn
    clear hn
    refine xr_goto (tgt := 114) C dX8_takeAnswer_67 (by decide) ?_
    exact xr_vreturn C hr hlk hm dX8_takeAnswer_114
set_option maxRecDepth 100000 in
set_option maxHeartbeats 4000000 in
theorem c_X8_takesWord {l : Launch} {D : va_G} {E : Ev} (a0 : Nat) (rp1 : Option Nat) (h : Hp) (kc ks : Nat) {Q : Int32 → Hp → Prop} (hm : m_X8_takesWord E a0 rp1 h kc ks Q) : XMet l yX8_takesWord cX8_takesWord 3 (some .boolean) 5 117 kc ks D E h [.ref a0, va_rf rp1] (fun A => va_Qi Q (XPost D A) A) := by
  refine xm_of (lv0 := [(0, .ref a0), (1, va_rf rp1)]) (by decide) (by simp [lg_sl, xv_cat, xv_ci, xv_cl, xv_cr, xv_cn]) (by simp [lv_args, xv_cat, xv_ci, xv_cl, xv_cr, xv_cn]) RX8 rfl (fun p e s m args below meth c A R hRm C hr hlk hnm => ?_)
  have hR : R.frames = 5 ∧ R.locals = 117 := by rw [hRm]; exact ⟨rfl, rfl⟩
  refine xr_aload_n (r := rp1) C dX8_takesWord_0 1 rfl ?_
  refine xr_bipush (v := 10) C dX8_takesWord_1 rfl ?_
  obtain ⟨a4, rfl, hm⟩ := hm
  obtain ⟨⟨fs1, e1⟩, hm⟩ := hm
  refine xr_cVi (n := 1) (As := [.int 10]) (st := []) C (c_X2_intField a4 10 h 0 0 hm) e1 rfl wd_438 wd_218 wd_219 wd_220 wd_217 (by decide +kernel) rfl (by rw [hR.1, hR.2]; decide) (Nat.zero_add _).symm (Nat.zero_add _).symm rfl (Nat.le_of_ble_eq_true rfl) dX8_takesWord_3 (fun x2 h3 hn => ?_)
  clear hm
  have hm := hn
  clear hn
  refine xr_istore_n (lv' := [(2, .int x2), (0, .ref a0), (1, .ref a4)]) C dX8_takesWord_6 (by decide) rfl ?_
  refine xr_aload_n (r := (some a4)) C dX8_takesWord_7 2 rfl ?_
  obtain ⟨fs5, r6, e5, f5, hm⟩ := hm
  refine xr_get (ci := 3) C 3 e5 f5 rfl inX2 (by decide) wd_416 dX8_takesWord_8 ?_
  refine xr_iconst (v := 1) C dX8_takesWord_11 rfl ?_
  obtain ⟨a8, rfl, hm⟩ := hm
  obtain ⟨N7, f7, y9, e7, b7, v7, hm⟩ := hm
  refine xr_lald C 1 rfl e7 b7 v7 dX8_takesWord_12 ?_
  refine xr_aload_n (r := (some a0)) C dX8_takesWord_13 1 rfl ?_
  obtain ⟨fs10, r11, e10, f10, hm⟩ := hm
  refine xr_get (ci := 9) C 9 e10 f10 rfl inX8 (by decide) wd_389 dX8_takesWord_14 ?_
  obtain ⟨a13, rfl, hm⟩ := hm
  obtain ⟨fs12, x14, e12, f12, hm⟩ := hm
  refine xr_get (ci := 6) C 0 e12 f12 rfl inX5 (by decide) wd_426 dX8_takesWord_17 ?_
  refine xr_i2l (v := x14.toInt64) C dX8_takesWord_20 rfl ?_
  refine xr_lcmp C dX8_takesWord_21 ?_
  refine xr_if_ne (tgt := 71) C dX8_takesWord_22 (by decide) (fun q15 => ?_) (fun q15 => ?_)
  · replace hm := hm.2 q15
    refine xr_iconst (v := 0) C dX8_takesWord_71 rfl ?_
    exact xr_zreturn C hr hlk (Or.inl rfl) hm dX8_takesWord_72
  · replace hm := hm.1 q15
    refine xr_aload_n (r := (some a4)) C dX8_takesWord_25 2 rfl ?_
    obtain ⟨fs16, r17, e16, f16, hm⟩ := hm
    refine xr_get (ci := 3) C 3 e16 f16 rfl inX2 (by decide) wd_416 dX8_takesWord_26 ?_
    refine xr_iconst (v := 2) C dX8_takesWord_29 rfl ?_
    obtain ⟨a19, rfl, hm⟩ := hm
    obtain ⟨N18, f18, y20, e18, b18, v18, hm⟩ := hm
    refine xr_lald C 1 rfl e18 b18 v18 dX8_takesWord_30 ?_
    refine xr_aload_n (r := (some a0)) C dX8_takesWord_31 1 rfl ?_
    obtain ⟨fs21, r22, e21, f21, hm⟩ := hm
    refine xr_get (ci := 9) C 9 e21 f21 rfl inX8 (by decide) wd_389 dX8_takesWord_32 ?_
    obtain ⟨a24, rfl, hm⟩ := hm
    obtain ⟨fs23, x25, e23, f23, hm⟩ := hm
    refine xr_get (ci := 6) C 1 e23 f23 rfl inX5 (by decide) wd_443 dX8_takesWord_35 ?_
    refine xr_i2l (v := x25.toInt64) C dX8_takesWord_38 rfl ?_
    refine xr_lcmp C dX8_takesWord_39 ?_
    refine xr_if_ne (tgt := 71) C dX8_takesWord_40 (by decide) (fun q26 => ?_) (fun q26 => ?_)
    · replace hm := hm.2 q26
      refine xr_iconst (v := 0) C dX8_takesWord_71 rfl ?_
      exact xr_zreturn C hr hlk (Or.inl rfl) hm dX8_takesWord_72
    · replace hm := hm.1 q26
      refine xr_aload_n (r := (some a0)) C dX8_takesWord_43 1 rfl ?_
      obtain ⟨fs27, r28, e27, f27, hm⟩ := hm
      refine xr_get (ci := 9) C 0 e27 f27 rfl inX8 (by decide) wd_391 dX8_takesWord_44 ?_
      obtain ⟨a30, rfl, hm⟩ := hm
      obtain ⟨fs29, r31, e29, f29, hm⟩ := hm
      refine xr_get (ci := 11) C 1 e29 f29 rfl inX10 (by decide) wd_425 dX8_takesWord_47 ?_
      refine xr_aload_n (r := (some a0)) C dX8_takesWord_50 1 rfl ?_
      obtain ⟨fs32, r33, e32, f32, hm⟩ := hm
      refine xr_get (ci := 9) C 9 e32 f32 rfl inX8 (by decide) wd_389 dX8_takesWord_51 ?_
      refine xr_iload_n C dX8_takesWord_54 0 rfl ?_
      obtain ⟨a37, rfl, hm⟩ := hm
      obtain ⟨⟨fs34, e34⟩, hm⟩ := hm
      refine xr_cVq (n := 2) (As := [va_rf r33, .int x2]) (st := []) C (c_X7_ofWordToTerminal a37 r33 x2 h3 0 0 hm) e34 rfl wd_458 wd_342 wd_343 wd_30 wd_341 (by decide +kernel) rfl (by rw [hR.1, hR.2]; decide) (Nat.zero_add _).symm (Nat.zero_add _).symm rfl (Nat.le_of_ble_eq_true rfl) dX8_takesWord_55 (fun r35 h36 hn => ?_)
      clear hm
      have hm := hn
      clear hn
      refine xr_aload_n (r := (some a4)) C dX8_takesWord_58 2 rfl ?_
      obtain ⟨fs38, r39, e38, f38, hm⟩ := hm
      refine xr_get (ci := 3) C 3 e38 f38 rfl inX2 (by decide) wd_416 dX8_takesWord_59 ?_
      refine xr_bipush (v := 11) C dX8_takesWord_62 rfl ?_
      obtain ⟨a41, rfl, hm⟩ := hm
      obtain ⟨N40, f40, y42, e40, b40, v40, hm⟩ := hm
      refine xr_lald C 1 rfl e40 b40 v40 dX8_takesWord_64 ?_
      obtain ⟨a46, rfl, hm⟩ := hm
      obtain ⟨⟨fs43, e43⟩, hm⟩ := hm
      refine xr_cVi (n := 1) (As := [.long y42]) (st := []) C (c_X7_isGood a46 y42 h36 0 0 hm) e43 rfl wd_432 wd_244 wd_245 wd_30 wd_243 (by decide +kernel) rfl (by rw [hR.1, hR.2]; decide) (Nat.zero_add _).symm (Nat.zero_add _).symm rfl (Nat.le_of_ble_eq_true rfl) dX8_takesWord_65 (fun x44 h45 hn => ?_)
      clear hm
      have hm := hn
      clear hn
      refine xr_if_ne (tgt := 73) C dX8_takesWord_68 (by decide) (fun q47 => ?_) (fun q47 => ?_)
      · replace hm := hm.2 q47
        refine xr_aload_n (r := (some a0)) C dX8_takesWord_73 1 rfl ?_
        refine xr_iload_n C dX8_takesWord_74 0 rfl ?_
        obtain ⟨fs48, e48, f48, h49, eh48, hm⟩ := hm
        refine xr_put (ci := 9) (v := .int x2) C 11 .int tyX8 tyX8_ok nmX8 e48 f48 rfl inX8 (by decide) wd_457 rfl (by decide) rfl rfl eh48 dX8_takesWord_75 ?_
        refine xr_aload_n (r := (some a0)) C dX8_takesWord_78 1 rfl ?_
        obtain ⟨fs50, r51, e50, f50, hm⟩ := hm
        refine xr_get (ci := 9) C 0 e50 f50 rfl inX8 (by decide) wd_391 dX8_takesWord_79 ?_
        obtain ⟨a53, rfl, hm⟩ := hm
        obtain ⟨fs52, r54, e52, f52, hm⟩ := hm
        refine xr_get (ci := 11) C 7 e52 f52 rfl inX10 (by decide) wd_415 dX8_takesWord_82 ?_
        obtain ⟨a56, rfl, hm⟩ := hm
        obtain ⟨fs55, r57, e55, f55, hm⟩ := hm
        refine xr_get (ci := 3) C 3 e55 f55 rfl inX2 (by decide) wd_416 dX8_takesWord_85 ?_
        refine xr_bipush (v := 10) C dX8_takesWord_88 rfl ?_
        refine xr_aload_n (r := (some a0)) C dX8_takesWord_90 1 rfl ?_
        obtain ⟨fs58, x59, e58, f58, hm⟩ := hm
        refine xr_get (ci := 9) C 11 e58 f58 rfl inX8 (by decide) wd_457 dX8_takesWord_91 ?_
        refine xr_i2l (v := x59.toInt64) C dX8_takesWord_94 rfl ?_
        obtain ⟨a61, rfl, hm⟩ := hm
        obtain ⟨N60, f60, e60, b60, h62, v60, hm⟩ := hm
        refine xr_last C 1 rfl e60 b60 v60 dX8_takesWord_95 ?_
        refine xr_aload_n (r := (some a0)) C dX8_takesWord_96 1 rfl ?_
        obtain ⟨fs63, r64, e63, f63, hm⟩ := hm
        refine xr_get (ci := 9) C 0 e63 f63 rfl inX8 (by decide) wd_391 dX8_takesWord_97 ?_
        obtain ⟨a66, rfl, hm⟩ := hm
        obtain ⟨fs65, r67, e65, f65, hm⟩ := hm
        refine xr_get (ci := 11) C 7 e65 f65 rfl inX10 (by decide) wd_415 dX8_takesWord_100 ?_
        obtain ⟨a69, rfl, hm⟩ := hm
        obtain ⟨fs68, r70, e68, f68, hm⟩ := hm
        refine xr_get (ci := 3) C 3 e68 f68 rfl inX2 (by decide) wd_416 dX8_takesWord_103 ?_
        refine xr_bipush (v := 8) C dX8_takesWord_106 rfl ?_
        refine xr_aload_n (r := (some a4)) C dX8_takesWord_108 2 rfl ?_
        obtain ⟨fs71, r72, e71, f71, hm⟩ := hm
        refine xr_get (ci := 3) C 3 e71 f71 rfl inX2 (by decide) wd_416 dX8_takesWord_109 ?_
        refine xr_bipush (v := 8) C dX8_takesWord_112 rfl ?_
        obtain ⟨a74, rfl, hm⟩ := hm
        obtain ⟨N73, f73, y75, e73, b73, v73, hm⟩ := hm
        refine xr_lald C 1 rfl e73 b73 v73 dX8_takesWord_114 ?_
        obtain ⟨a77, rfl, hm⟩ := hm
        obtain ⟨N76, f76, e76, b76, h78, v76, hm⟩ := hm
        refine xr_last C 1 rfl e76 b76 v76 dX8_takesWord_115 ?_
        refine xr_aload_n (r := (some a0)) C dX8_takesWord_116 1 rfl ?_
        refine xr_bipush (v := 9) C dX8_takesWord_117 rfl ?_
        refine xr_bipush (v := 10) C dX8_takesWord_119 rfl ?_
        obtain ⟨⟨fs79, e79⟩, hm⟩ := hm
        obtain ⟨mc80, ms81, kc82, ks83, kk79, kl79, hm⟩ := hm
        refine xr_cVv (n := 2) (As := [.int 9, .int 10]) (st := []) C (c_X8_sendToCard a0 9 10 h78 mc80 ms81 hm) e79 rfl wd_417 wd_419 wd_420 wd_405 wd_418 (by decide +kernel) rfl (by rw [hR.1, hR.2]; decide) kk79 kl79 rfl (Nat.le_of_ble_eq_true rfl) dX8_takesWord_121 (fun h85 hn => ?_)
        clear hm
        have hm := hn
        clear hn
        refine xr_iconst (v := 1) C dX8_takesWord_124 rfl ?_
        exact xr_zreturn C hr hlk (Or.inr rfl) hm dX8_takesWord_125
      · replace hm := hm.1 q47
        refine xr_iconst (v := 0) C dX8_takesWord_71 rfl ?_
        exact xr_zreturn C hr hlk (Or.inl rfl) hm dX8_takesWord_72
set_option maxRecDepth 100000 in
set_option maxHeartbeats 4000000 in
theorem k_X8_takeLast_L66 {p : Program} {l : Launch} {e : Env} {R : Room} {s : State} {m : MethodId} {args : Array Value} {below : List Frame} {meth : Method} {c : Code} {D : va_G} {E : Ev} {A : Nat → Prop} {KC KS : Nat} (C : XC p R s m args c D E A 3 RX8 cX8_takeLast KC KS) (hr : meth.sig.returnType = none) (hlk : meth.locks = false) (hnm : meth.name = "takeLast") (hR : R.frames = 4 ∧ R.locals = 86) {Q : Hp → Prop} : ∀ (s0 : Int32) (s1 : Option Nat) (h : Hp) (kc ks : Nat), m_X8_takeLast_L66 E s0 s1 h kc ks Q → XW p l e R s m args below meth c (MQ below (va_Qv Q (XPost D A) A) args s KC KS A) D A KC KS 3 h kc ks [] 66 [.int s0, va_rf s1] := by
  intro s0 s1 h kc ks hm
  obtain ⟨a36, rfl, hm⟩ := hm
  obtain ⟨⟨fs33, e33⟩, hm⟩ := hm
  refine xr_cVv (n := 1) (As := [.int s0]) (st := []) C (c_X8_end a36 s0 h 0 0 hm) e33 rfl wd_439 wd_441 wd_442 wd_405 wd_440 (by decide +kernel) rfl (by rw [hR.1, hR.2]; decide) (Nat.zero_add _).symm (Nat.zero_add _).symm rfl (Nat.le_of_ble_eq_true rfl) dX8_takeLast_66 (fun h35 hn => ?_)
  clear hm
  have hm := hn
  clear hn
  exact xr_vreturn C hr hlk hm dX8_takeLast_69
set_option maxRecDepth 100000 in
set_option maxHeartbeats 4000000 in
theorem k_X8_takeLast_L55 {p : Program} {l : Launch} {e : Env} {R : Room} {s : State} {m : MethodId} {args : Array Value} {below : List Frame} {meth : Method} {c : Code} {D : va_G} {E : Ev} {A : Nat → Prop} {KC KS : Nat} (C : XC p R s m args c D E A 3 RX8 cX8_takeLast KC KS) (hr : meth.sig.returnType = none) (hlk : meth.locks = false) (hnm : meth.name = "takeLast") (hR : R.frames = 4 ∧ R.locals = 86) {Q : Hp → Prop} : ∀ (a0 : Nat) (s0 : Int32) (h : Hp) (kc ks : Nat), m_X8_takeLast_L55 E a0 s0 h kc ks Q → XW p l e R s m args below meth c (MQ below (va_Qv Q (XPost D A) A) args s KC KS A) D A KC KS 3 h kc ks [(0, .ref a0)] 55 [.int s0] := by
  intro a0 s0 h kc ks hm
  refine xr_istore_n (lv' := [(2, .int s0), (0, .ref a0)]) C dX8_takeLast_55 (by decide) rfl ?_
  refine xr_aload_n (r := (some a0)) C dX8_takeLast_56 1 rfl ?_
  refine xr_iload_n C dX8_takeLast_57 0 rfl ?_
  refine xr_if_eq (tgt := 65) C dX8_takeLast_58 (by decide) (fun q32 => ?_) (fun q32 => ?_)
  · replace hm := hm.1 q32
    refine xr_iconst (v := 3) C dX8_takeLast_65 rfl ?_
    refine xr_sub [] rfl ?_
    exact k_X8_takeLast_L66 C hr hlk hnm hR 3 (some a0) _ _ _ hm
  · replace hm := hm.2 q32
    refine xr_iconst (v := 1) C dX8_takeLast_61 rfl ?_
    refine xr_goto (tgt := 66) C dX8_takeLast_62 (by decide) ?_
    refine xr_sub [] rfl ?_
    exact k_X8_takeLast_L66 C hr hlk hnm hR 1 (some a0) _ _ _ hm
set_option maxRecDepth 100000 in
set_option maxHeartbeats 4000000 in
theorem k_X8_takeLast_L54 {p : Program} {l : Launch} {e : Env} {R : Room} {s : State} {m : MethodId} {args : Array Value} {below : List Frame} {meth : Method} {c : Code} {D : va_G} {E : Ev} {A : Nat → Prop} {KC KS : Nat} (C : XC p R s m args c D E A 3 RX8 cX8_takeLast KC KS) (hr : meth.sig.returnType = none) (hlk : meth.locks = false) (hnm : meth.name = "takeLast") (hR : R.frames = 4 ∧ R.locals = 86) {Q : Hp → Prop} : ∀ (a0 : Nat) (h : Hp) (kc ks : Nat), m_X8_takeLast_L54 E a0 h kc ks Q → XW p l e R s m args below meth c (MQ below (va_Qv Q (XPost D A) A) args s KC KS A) D A KC KS 3 h kc ks [(0, .ref a0)] 54 [] := by
  intro a0 h kc ks hm
  refine xr_iconst (v := 0) C dX8_takeLast_54 rfl ?_
  exact k_X8_takeLast_L55 C hr hlk hnm hR a0 0 _ _ _ hm
set_option maxRecDepth 100000 in
set_option maxHeartbeats 4000000 in
theorem c_X8_takeLast {l : Launch} {D : va_G} {E : Ev} (a0 : Nat) (rp1 : Option Nat) (h : Hp) (kc ks : Nat) {Q : Hp → Prop} (hm : m_X8_takeLast E a0 rp1 h kc ks Q) : XMet l yX8_takeLast cX8_takeLast 3 none 4 86 kc ks D E h [.ref a0, va_rf rp1] (fun A => va_Qv Q (XPost D A) A) := by
  refine xm_of (lv0 := [(0, .ref a0), (1, va_rf rp1)]) (by decide) (by simp [lg_sl, xv_cat, xv_ci, xv_cl, xv_cr, xv_cn]) (by simp [lv_args, xv_cat, xv_ci, xv_cl, xv_cr, xv_cn]) RX8 rfl (fun p e s m args below meth c A R hRm C hr hlk hnm => ?_)
  have hR : R.frames = 4 ∧ R.locals = 86 := by rw [hRm]; exact ⟨rfl, rfl⟩
  refine xr_aload_n (r := (some a0)) C dX8_takeLast_0 0 rfl ?_
  obtain ⟨fs1, x2, e1, f1, hm⟩ := hm
  refine xr_get (ci := 9) C 11 e1 f1 rfl inX8 (by decide) wd_457 dX8_takeLast_1 ?_
  refine xr_iconst (v := 1) C dX8_takeLast_4 rfl ?_
  refine xr_icmp_ne (tgt := 54) C dX8_takeLast_5 (by decide) (fun q3 => ?_) (fun q3 => ?_)
  · replace hm := hm.2 q3
    refine xr_sub [0] rfl ?_
    exact k_X8_takeLast_L54 C hr hlk hnm hR a0 _ _ _ hm
  · replace hm := hm.1 q3
    refine xr_aload_n (r := rp1) C dX8_takeLast_8 1 rfl ?_
    obtain ⟨a5, rfl, hm⟩ := hm
    obtain ⟨fs4, r6, e4, f4, hm⟩ := hm
    refine xr_get (ci := 3) C 3 e4 f4 rfl inX2 (by decide) wd_416 dX8_takeLast_9 ?_
    refine xr_bipush (v := 7) C dX8_takeLast_12 rfl ?_
    obtain ⟨a8, rfl, hm⟩ := hm
    obtain ⟨N7, f7, y9, e7, b7, v7, hm⟩ := hm
    refine xr_lald C 1 rfl e7 b7 v7 dX8_takeLast_14 ?_
    refine xr_ldc2 (v := 2) C dX8_takeLast_15 wd_424 ?_
    refine xr_lcmp C dX8_takeLast_18 ?_
    refine xr_if_ne (tgt := 54) C dX8_takeLast_19 (by decide) (fun q10 => ?_) (fun q10 => ?_)
    · replace hm := hm.2 q10
      refine xr_sub [0] rfl ?_
      exact k_X8_takeLast_L54 C hr hlk hnm hR a0 _ _ _ hm
    · replace hm := hm.1 q10
      refine xr_aload_n (r := (some a0)) C dX8_takeLast_22 0 rfl ?_
      obtain ⟨fs11, r12, e11, f11, hm⟩ := hm
      refine xr_get (ci := 9) C 0 e11 f11 rfl inX8 (by decide) wd_391 dX8_takeLast_23 ?_
      obtain ⟨a14, rfl, hm⟩ := hm
      obtain ⟨fs13, r15, e13, f13, hm⟩ := hm
      refine xr_get (ci := 11) C 1 e13 f13 rfl inX10 (by decide) wd_425 dX8_takeLast_26 ?_
      refine xr_aload_n (r := (some a0)) C dX8_takeLast_29 0 rfl ?_
      obtain ⟨fs16, r17, e16, f16, hm⟩ := hm
      refine xr_get (ci := 9) C 9 e16 f16 rfl inX8 (by decide) wd_389 dX8_takeLast_30 ?_
      refine xr_iconst (v := 2) C dX8_takeLast_33 rfl ?_
      obtain ⟨a21, rfl, hm⟩ := hm
      obtain ⟨⟨fs18, e18⟩, hm⟩ := hm
      refine xr_cVq (n := 2) (As := [va_rf r17, .int 2]) (st := []) C (c_X7_ofLast a21 r17 2 h 0 0 hm) e18 rfl wd_459 wd_257 wd_258 wd_30 wd_256 (by decide +kernel) rfl (by rw [hR.1, hR.2]; decide) (Nat.zero_add _).symm (Nat.zero_add _).symm rfl (Nat.le_of_ble_eq_true rfl) dX8_takeLast_34 (fun r19 h20 hn => ?_)
      clear hm
      have hm := hn
      clear hn
      refine xr_aload_n (r := (some a5)) C dX8_takeLast_37 1 rfl ?_
      obtain ⟨fs22, r23, e22, f22, hm⟩ := hm
      refine xr_get (ci := 3) C 3 e22 f22 rfl inX2 (by decide) wd_416 dX8_takeLast_38 ?_
      refine xr_bipush (v := 8) C dX8_takeLast_41 rfl ?_
      obtain ⟨a25, rfl, hm⟩ := hm
      obtain ⟨N24, f24, y26, e24, b24, v24, hm⟩ := hm
      refine xr_lald C 1 rfl e24 b24 v24 dX8_takeLast_43 ?_
      obtain ⟨a30, rfl, hm⟩ := hm
      obtain ⟨⟨fs27, e27⟩, hm⟩ := hm
      refine xr_cVi (n := 1) (As := [.long y26]) (st := []) C (c_X7_isGood a30 y26 h20 0 0 hm) e27 rfl wd_432 wd_244 wd_245 wd_30 wd_243 (by decide +kernel) rfl (by rw [hR.1, hR.2]; decide) (Nat.zero_add _).symm (Nat.zero_add _).symm rfl (Nat.le_of_ble_eq_true rfl) dX8_takeLast_44 (fun x28 h29 hn => ?_)
      clear hm
      have hm := hn
      clear hn
      refine xr_if_eq (tgt := 54) C dX8_takeLast_47 (by decide) (fun q31 => ?_) (fun q31 => ?_)
      · replace hm := hm.1 q31
        refine xr_sub [0] rfl ?_
        exact k_X8_takeLast_L54 C hr hlk hnm hR a0 _ _ _ hm
      · replace hm := hm.2 q31
        refine xr_iconst (v := 1) C dX8_takeLast_50 rfl ?_
        refine xr_goto (tgt := 55) C dX8_takeLast_51 (by decide) ?_
        refine xr_sub [0] rfl ?_
        exact k_X8_takeLast_L55 C hr hlk hnm hR a0 1 _ _ _ hm
