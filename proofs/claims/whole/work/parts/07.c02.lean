set_option maxRecDepth 100000 in
set_option maxHeartbeats 4000000 in
theorem c_X1_takes {l : Launch} {D : va_G} {E : Ev} (a0 : Nat) (rp1 : Option Nat) (h : Hp) (kc ks : Nat) {Q : Int32 → Hp → Prop} (hm : m_X1_takes E a0 rp1 h kc ks Q) : XMet l yX1_takes cX1_takes 2 (some .boolean) 9 235 kc ks D E h [.ref a0, va_rf rp1] (fun A => va_Qi Q (XPost D A) A) := by
  refine xm_of (lv0 := [(0, .ref a0), (1, va_rf rp1)]) (by decide) (by simp [lg_sl, xv_cat, xv_ci, xv_cl, xv_cr, xv_cn]) (by simp [lv_args, xv_cat, xv_ci, xv_cl, xv_cr, xv_cn]) RX1 rfl (fun p e s m args below meth c A R hRm C hr hlk hnm => ?_)
  have hR : R.frames = 9 ∧ R.locals = 235 := by rw [hRm]; exact ⟨rfl, rfl⟩
  refine xr_aload_n (r := rp1) C dX1_takes_0 1 rfl ?_
  obtain ⟨a2, rfl, hm⟩ := hm
  obtain ⟨fs1, x3, e1, f1, hm⟩ := hm
  refine xr_get (ci := 3) C 0 e1 f1 rfl inX2 (by decide) wd_259 dX1_takes_1 ?_
  by_cases q_0 : x3 = 1
  · replace hm := hm.1 q_0
    refine xr_tableIn (tgt := 56) C dX1_takes_4 (by rw [q_0]; decide) (by rw [q_0]; decide) (by rw [q_0] <;> rfl) (by decide) ?_
    refine xr_aload_n (r := (some a0)) C dX1_takes_56 0 rfl ?_
    refine xr_aload_n (r := (some a2)) C dX1_takes_57 1 rfl ?_
    obtain ⟨⟨fs4, e4⟩, hm⟩ := hm
    obtain ⟨mc5, ms6, kc7, ks8, kk4, kl4, hm⟩ := hm
    refine xr_cVi (n := 1) (As := [.ref a2]) (st := []) C (c_X1_takesBegin a0 (some a2) h mc5 ms6 hm) e4 rfl wd_260 wd_262 wd_263 wd_188 wd_261 (by decide +kernel) rfl (by rw [hR.1, hR.2]; decide) kk4 kl4 rfl (Nat.le_of_ble_eq_true rfl) dX1_takes_58 (fun x9 h10 hn => ?_)
    clear hm
    have hm := hn
    clear hn
    exact xr_zreturn C hr hlk hm.1 hm.2 dX1_takes_61
  · replace hm := hm.2 q_0
    by_cases q_1 : x3 = 3
    · replace hm := hm.1 q_1
      refine xr_tableIn (tgt := 62) C dX1_takes_4 (by rw [q_1]; decide) (by rw [q_1]; decide) (by rw [q_1] <;> rfl) (by decide) ?_
      refine xr_aload_n (r := (some a0)) C dX1_takes_62 0 rfl ?_
      refine xr_aload_n (r := (some a2)) C dX1_takes_63 1 rfl ?_
      obtain ⟨⟨fs11, e11⟩, hm⟩ := hm
      obtain ⟨mc12, ms13, kc14, ks15, kk11, kl11, hm⟩ := hm
      refine xr_cVi (n := 1) (As := [.ref a2]) (st := []) C (c_X1_takesPin a0 (some a2) h mc12 ms13 hm) e11 rfl wd_264 wd_266 wd_267 wd_188 wd_265 (by decide +kernel) rfl (by rw [hR.1, hR.2]; decide) kk11 kl11 rfl (Nat.le_of_ble_eq_true rfl) dX1_takes_64 (fun x16 h17 hn => ?_)
      clear hm
      have hm := hn
      clear hn
      exact xr_zreturn C hr hlk hm.1 hm.2 dX1_takes_67
    · replace hm := hm.2 q_1
      by_cases q_2 : x3 = 5
      · replace hm := hm.1 q_2
        refine xr_tableIn (tgt := 68) C dX1_takes_4 (by rw [q_2]; decide) (by rw [q_2]; decide) (by rw [q_2] <;> rfl) (by decide) ?_
        refine xr_aload_n (r := (some a0)) C dX1_takes_68 0 rfl ?_
        refine xr_aload_n (r := (some a2)) C dX1_takes_69 1 rfl ?_
        obtain ⟨⟨fs18, e18⟩, hm⟩ := hm
        obtain ⟨mc19, ms20, kc21, ks22, kk18, kl18, hm⟩ := hm
        refine xr_cVi (n := 1) (As := [.ref a2]) (st := []) C (c_X1_takesAsk a0 (some a2) h mc19 ms20 hm) e18 rfl wd_268 wd_270 wd_271 wd_188 wd_269 (by decide +kernel) rfl (by rw [hR.1, hR.2]; decide) kk18 kl18 rfl (Nat.le_of_ble_eq_true rfl) dX1_takes_70 (fun x23 h24 hn => ?_)
        clear hm
        have hm := hn
        clear hn
        exact xr_zreturn C hr hlk hm.1 hm.2 dX1_takes_73
      · replace hm := hm.2 q_2
        by_cases q_3 : x3 = 9
        · replace hm := hm.1 q_3
          refine xr_tableIn (tgt := 74) C dX1_takes_4 (by rw [q_3]; decide) (by rw [q_3]; decide) (by rw [q_3] <;> rfl) (by decide) ?_
          refine xr_aload_n (r := (some a0)) C dX1_takes_74 0 rfl ?_
          refine xr_aload_n (r := (some a2)) C dX1_takes_75 1 rfl ?_
          obtain ⟨⟨fs25, e25⟩, hm⟩ := hm
          obtain ⟨mc26, ms27, kc28, ks29, kk25, kl25, hm⟩ := hm
          refine xr_cVi (n := 1) (As := [.ref a2]) (st := []) C (c_X1_takesEnd a0 (some a2) h mc26 ms27 hm) e25 rfl wd_272 wd_274 wd_275 wd_188 wd_273 (by decide +kernel) rfl (by rw [hR.1, hR.2]; decide) kk25 kl25 rfl (Nat.le_of_ble_eq_true rfl) dX1_takes_76 (fun x30 h31 hn => ?_)
          clear hm
          have hm := hn
          clear hn
          exact xr_zreturn C hr hlk hm.1 hm.2 dX1_takes_79
        · replace hm := hm.2 q_3
          have z_0 := lv_neT (a := 1) q_0 rfl
          have z_1 := lv_neT (a := 3) q_1 rfl
          have z_2 := lv_neT (a := 5) q_2 rfl
          have z_3 := lv_neT (a := 9) q_3 rfl
          by_cases w_0 : x3 = 2
          · refine xr_tableIn (tgt := 80) C dX1_takes_4 (by rw [w_0]; decide) (by rw [w_0]; decide) (by rw [w_0] <;> rfl) (by decide) ?_
            refine xr_iconst (v := 0) C dX1_takes_80 rfl ?_
            exact xr_zreturn C hr hlk (Or.inl rfl) hm dX1_takes_81
          · have y_0 := lv_neT (a := 2) w_0 rfl
            by_cases w_1 : x3 = 4
            · refine xr_tableIn (tgt := 80) C dX1_takes_4 (by rw [w_1]; decide) (by rw [w_1]; decide) (by rw [w_1] <;> rfl) (by decide) ?_
              refine xr_iconst (v := 0) C dX1_takes_80 rfl ?_
              exact xr_zreturn C hr hlk (Or.inl rfl) hm dX1_takes_81
            · have y_1 := lv_neT (a := 4) w_1 rfl
              by_cases w_2 : x3 = 6
              · refine xr_tableIn (tgt := 80) C dX1_takes_4 (by rw [w_2]; decide) (by rw [w_2]; decide) (by rw [w_2] <;> rfl) (by decide) ?_
                refine xr_iconst (v := 0) C dX1_takes_80 rfl ?_
                exact xr_zreturn C hr hlk (Or.inl rfl) hm dX1_takes_81
              · have y_2 := lv_neT (a := 6) w_2 rfl
                by_cases w_3 : x3 = 7
                · refine xr_tableIn (tgt := 80) C dX1_takes_4 (by rw [w_3]; decide) (by rw [w_3]; decide) (by rw [w_3] <;> rfl) (by decide) ?_
                  refine xr_iconst (v := 0) C dX1_takes_80 rfl ?_
                  exact xr_zreturn C hr hlk (Or.inl rfl) hm dX1_takes_81
                · have y_3 := lv_neT (a := 7) w_3 rfl
                  by_cases w_4 : x3 = 8
                  · refine xr_tableIn (tgt := 80) C dX1_takes_4 (by rw [w_4]; decide) (by rw [w_4]; decide) (by rw [w_4] <;> rfl) (by decide) ?_
                    refine xr_iconst (v := 0) C dX1_takes_80 rfl ?_
                    exact xr_zreturn C hr hlk (Or.inl rfl) hm dX1_takes_81
                  · have y_4 := lv_neT (a := 8) w_4 rfl
                    refine xr_tableOut (tgt := 80) C dX1_takes_4 (by omega) (by decide) ?_
                    refine xr_iconst (v := 0) C dX1_takes_80 rfl ?_
                    exact xr_zreturn C hr hlk (Or.inl rfl) hm dX1_takes_81
set_option maxRecDepth 100000 in
set_option maxHeartbeats 4000000 in
theorem c_X2_init {l : Launch} {D : va_G} {E : Ev} (a0 : Nat) (h : Hp) (kc ks : Nat) {Q : Hp → Prop} (hm : m_X2_init E a0 h kc ks Q) : XMet l yX2_init cX2_init 1 none 1 24 kc ks D E h [.ref a0] (fun A => va_Qv Q (XPost D A) A) := by
  refine xm_of (lv0 := [(0, .ref a0)]) (by decide) (Nat.le_of_ble_eq_true rfl) rfl RX2 rfl (fun p e s m args below meth c A R hRm C hr hlk hnm => ?_)
  have hR : R.frames = 1 ∧ R.locals = 24 := by rw [hRm]; exact ⟨rfl, rfl⟩
  refine xr_aload_n (r := (some a0)) C dX2_init_0 0 rfl ?_
  refine xr_obj C wd_276 wd_1 wd_2 (by rw [hR.1]; decide) (by rw [hR.2]; exact Nat.le_of_ble_eq_true rfl) dX2_init_1 ?_
  refine xr_aload_n (r := (some a0)) C dX2_init_4 0 rfl ?_
  refine xr_bipush (v := 12) C dX2_init_5 rfl ?_
  obtain ⟨N2, kc5, ks6, b2, c2, z2, kk2, kl2, hm⟩ := hm
  refine xr_newa_long C 1 rfl wd_61 b2 c2 z2 kk2 kl2 dX2_init_7 (fun a3 h4 na2 eh2 => ?_)
  replace hm := hm a3 h4 na2 eh2
  obtain ⟨fs7, e7, f7, h8, eh7, hm⟩ := hm
  refine xr_putF (ci := 3) (v := .ref a3) C 3 (.array .long) tyX2 tyX2_ok nmX2 e7 f7 rfl inX2 (by decide) wd_205 rfl hnm rfl (by decide) rfl rfl eh7 dX2_init_9 ?_
  exact xr_vreturn C hr hlk hm dX2_init_12
set_option maxRecDepth 100000 in
set_option maxHeartbeats 4000000 in
theorem c_Jxa1e45_init_da8c8 {l : Launch} {D : va_G} {E : Ev} (a0 : Nat) (h : Hp) (kc ks : Nat) {Q : Hp → Prop} (hm : m_Jxa1e45_init_da8c8 E a0 h kc ks Q) : XMet l yJxa1e45_init_da8c8 cJxa1e45_init_da8c8 1 none 1 24 kc ks D E h [.ref a0] (fun A => va_Qv Q (XPost D A) A) := by
  refine xm_of (lv0 := [(0, .ref a0)]) (by decide) (Nat.le_of_ble_eq_true rfl) rfl RJxa1e45 rfl (fun p e s m args below meth c A R hRm C hr hlk hnm => ?_)
  have hR : R.frames = 1 ∧ R.locals = 24 := by rw [hRm]; exact ⟨rfl, rfl⟩
  refine xr_aload_n (r := (some a0)) C dJxa1e45_init_da8c8_0 0 rfl ?_
  refine xr_obj C wd_277 wd_1 wd_2 (by rw [hR.1]; decide) (by rw [hR.2]; exact Nat.le_of_ble_eq_true rfl) dJxa1e45_init_da8c8_1 ?_
  exact xr_vreturn C hr hlk hm dJxa1e45_init_da8c8_4
set_option maxRecDepth 100000 in
set_option maxHeartbeats 4000000 in
theorem c_Jxc12de_init_da8c8 {l : Launch} {D : va_G} {E : Ev} (a0 : Nat) (h : Hp) (kc ks : Nat) {Q : Hp → Prop} (hm : m_Jxc12de_init_da8c8 E a0 h kc ks Q) : XMet l yJxc12de_init_da8c8 cJxc12de_init_da8c8 1 none 2 44 kc ks D E h [.ref a0] (fun A => va_Qv Q (XPost D A) A) := by
  refine xm_of (lv0 := [(0, .ref a0)]) (by decide) (Nat.le_of_ble_eq_true rfl) rfl RJxc12de rfl (fun p e s m args below meth c A R hRm C hr hlk hnm => ?_)
  have hR : R.frames = 2 ∧ R.locals = 44 := by rw [hRm]; exact ⟨rfl, rfl⟩
  refine xr_aload_n (r := (some a0)) C dJxc12de_init_da8c8_0 0 rfl ?_
  refine xr_cIv (n := 0) (As := []) (st := []) C (c_Jxa1e45_init_da8c8 a0 h 0 0 hm) wd_279 wd_281 wd_282 wd_280 rfl (by decide +kernel) rfl (by rw [hR.1, hR.2]; decide) (Nat.zero_add _).symm (Nat.zero_add _).symm rfl (Nat.le_of_ble_eq_true rfl) dJxc12de_init_da8c8_1 (fun h3 hn => ?_)
  clear hm
  have hm := hn
  clear hn
  refine xr_aload_n (r := (some a0)) C dJxc12de_init_da8c8_4 0 rfl ?_
  refine xr_iconst (v := 0) C dJxc12de_init_da8c8_5 rfl ?_
  obtain ⟨fs4, e4, f4, h5, eh4, hm⟩ := hm
  refine xr_put (ci := 0) (v := .int 0) C 0 .int tyJx4a65c tyJx4a65c_ok nmJx4a65c e4 f4 rfl inJx4a65c (by decide) wd_278 rfl (by decide) rfl rfl eh4 dJxc12de_init_da8c8_6 ?_
  exact xr_vreturn C hr hlk hm dJxc12de_init_da8c8_9
set_option maxRecDepth 100000 in
set_option maxHeartbeats 4000000 in
theorem c_Jx4a65c_init_da8c8 {l : Launch} {D : va_G} {E : Ev} (a0 : Nat) (h : Hp) (kc ks : Nat) {Q : Hp → Prop} (hm : m_Jx4a65c_init_da8c8 E a0 h kc ks Q) : XMet l yJx4a65c_init_da8c8 cJx4a65c_init_da8c8 1 none 3 64 kc ks D E h [.ref a0] (fun A => va_Qv Q (XPost D A) A) := by
  refine xm_of (lv0 := [(0, .ref a0)]) (by decide) (Nat.le_of_ble_eq_true rfl) rfl RJx4a65c rfl (fun p e s m args below meth c A R hRm C hr hlk hnm => ?_)
  have hR : R.frames = 3 ∧ R.locals = 64 := by rw [hRm]; exact ⟨rfl, rfl⟩
  refine xr_aload_n (r := (some a0)) C dJx4a65c_init_da8c8_0 0 rfl ?_
  refine xr_cIv (n := 0) (As := []) (st := []) C (c_Jxc12de_init_da8c8 a0 h 0 0 hm) wd_283 wd_285 wd_286 wd_284 rfl (by decide +kernel) rfl (by rw [hR.1, hR.2]; decide) (Nat.zero_add _).symm (Nat.zero_add _).symm rfl (Nat.le_of_ble_eq_true rfl) dJx4a65c_init_da8c8_1 (fun h3 hn => ?_)
  clear hm
  have hm := hn
  clear hn
  refine xr_aload_n (r := (some a0)) C dJx4a65c_init_da8c8_4 0 rfl ?_
  refine xr_gets C 2 rfl wd_86 dJx4a65c_init_da8c8_5 ?_
  obtain ⟨fs5, e5, f5, h6, eh5, hm⟩ := hm
  refine xr_put (ci := 0) (v := .ref (E.2.1 2)) C 1 (.array (.object "java/lang/Object")) tyJx4a65c tyJx4a65c_ok nmJx4a65c e5 f5 rfl inJx4a65c (by decide) wd_40 rfl (by decide) rfl rfl eh5 dJx4a65c_init_da8c8_8 ?_
  exact xr_vreturn C hr hlk hm dJx4a65c_init_da8c8_11
set_option maxRecDepth 100000 in
set_option maxHeartbeats 4000000 in
theorem c_X3_init {l : Launch} {D : va_G} {E : Ev} (a0 : Nat) (rp1 : Option Nat) (h : Hp) (kc ks : Nat) {Q : Hp → Prop} (hm : m_X3_init E a0 rp1 h kc ks Q) : XMet l yX3_init cX3_init 2 none 4 84 kc ks D E h [.ref a0, va_rf rp1] (fun A => va_Qv Q (XPost D A) A) := by
  refine xm_of (lv0 := [(0, .ref a0), (1, va_rf rp1)]) (by decide) (by simp [lg_sl, xv_cat, xv_ci, xv_cl, xv_cr, xv_cn]) (by simp [lv_args, xv_cat, xv_ci, xv_cl, xv_cr, xv_cn]) RX3 rfl (fun p e s m args below meth c A R hRm C hr hlk hnm => ?_)
  have hR : R.frames = 4 ∧ R.locals = 84 := by rw [hRm]; exact ⟨rfl, rfl⟩
  refine xr_aload_n (r := (some a0)) C dX3_init_0 0 rfl ?_
  refine xr_obj C wd_287 wd_1 wd_2 (by rw [hR.1]; decide) (by rw [hR.2]; exact Nat.le_of_ble_eq_true rfl) dX3_init_1 ?_
  refine xr_aload_n (r := (some a0)) C dX3_init_4 0 rfl ?_
  obtain ⟨kc5, ks6, kk2, kl2, hm⟩ := hm
  refine xr_new (ci := 0) (fs := [.int 0, .null, .int 0]) C tyJx4a65c tyJx4a65c_ok rfl inJx4a65c wd_294 wd_295 wd_45 dvJx4a65c kk2 kl2 dX3_init_5 (fun a3 h4 na2 eh2 => ?_)
  replace hm := hm a3 h4 na2 eh2
  refine xr_dup C dX3_init_8 rfl ?_
  refine xr_cIv (n := 0) (As := []) (st := [.ref a3, .ref a0]) C (c_Jx4a65c_init_da8c8 a3 h4 0 0 hm) wd_291 wd_293 wd_45 wd_292 rfl (by decide +kernel) rfl (by rw [hR.1, hR.2]; decide) (Nat.zero_add _).symm (Nat.zero_add _).symm rfl (Nat.le_of_ble_eq_true rfl) dX3_init_9 (fun h9 hn => ?_)
  clear hm
  have hm := hn
  clear hn
  obtain ⟨fs10, e10, f10, h11, eh10, hm⟩ := hm
  refine xr_putF (ci := 4) (v := .ref a3) C 1 (.object "java/util/ArrayList") tyX3 tyX3_ok nmX3 e10 f10 rfl inX3 (by decide) wd_288 rfl hnm rfl (by decide) rfl rfl eh10 dX3_init_12 ?_
  refine xr_aload_n (r := (some a0)) C dX3_init_15 0 rfl ?_
  obtain ⟨kc15, ks16, kk12, kl12, hm⟩ := hm
  refine xr_new (ci := 0) (fs := [.int 0, .null, .int 0]) C tyJx4a65c tyJx4a65c_ok rfl inJx4a65c wd_294 wd_295 wd_45 dvJx4a65c kk12 kl12 dX3_init_16 (fun a13 h14 na12 eh12 => ?_)
  replace hm := hm a13 h14 na12 eh12
  refine xr_dup C dX3_init_19 rfl ?_
  refine xr_cIv (n := 0) (As := []) (st := [.ref a13, .ref a0]) C (c_Jx4a65c_init_da8c8 a13 h14 0 0 hm) wd_291 wd_293 wd_45 wd_292 rfl (by decide +kernel) rfl (by rw [hR.1, hR.2]; decide) (Nat.zero_add _).symm (Nat.zero_add _).symm rfl (Nat.le_of_ble_eq_true rfl) dX3_init_20 (fun h19 hn => ?_)
  clear hm
  have hm := hn
  clear hn
  obtain ⟨fs20, e20, f20, h21, eh20, hm⟩ := hm
  refine xr_putF (ci := 4) (v := .ref a13) C 2 (.object "java/util/ArrayList") tyX3 tyX3_ok nmX3 e20 f20 rfl inX3 (by decide) wd_289 rfl hnm rfl (by decide) rfl rfl eh20 dX3_init_23 ?_
  refine xr_aload_n (r := (some a0)) C dX3_init_26 0 rfl ?_
  refine xr_aload_n (r := rp1) C dX3_init_27 1 rfl ?_
  obtain ⟨fs22, e22, f22, h23, eh22, hm⟩ := hm
  refine xr_putF (ci := 4) (v := va_rf rp1) C 0 (.object "CardPayments$World") tyX3 tyX3_ok nmX3 e22 f22 rfl inX3 (by decide) wd_290 rfl hnm rfl (by decide) (xv_narO _ _) (xv_fitO _ _) eh22 dX3_init_28 ?_
  exact xr_vreturn C hr hlk hm dX3_init_31
set_option maxRecDepth 100000 in
set_option maxHeartbeats 4000000 in
theorem c_X3_paymentOf {l : Launch} {D : va_G} {E : Ev} (rp0 : Option Nat) (xp1 : Int32) (h : Hp) (kc ks : Nat) {Q : Option Nat → Hp → Prop} (hm : m_X3_paymentOf E rp0 xp1 h kc ks Q) : XMet l yX3_paymentOf cX3_paymentOf 3 (some (.object "CardPayments$Payment")) 2 44 kc ks D E h [va_rf rp0, .int xp1] (fun A => va_Qq Q (XPost D A) A) := by
  refine xm_of (lv0 := [(0, va_rf rp0), (1, .int xp1)]) (by decide) (by simp [lg_sl, xv_cat, xv_ci, xv_cl, xv_cr, xv_cn]) (by simp [lv_args, xv_cat, xv_ci, xv_cl, xv_cr, xv_cn]) RX3 rfl (fun p e s m args below meth c A R hRm C hr hlk hnm => ?_)
  have hR : R.frames = 2 ∧ R.locals = 44 := by rw [hRm]; exact ⟨rfl, rfl⟩
  obtain ⟨kc4, ks5, kk1, kl1, hm⟩ := hm
  refine xr_new (ci := 6) (fs := [.int 0, .int 0, .long 0, .long 0, .int 0, .int 0, .int 0, .long 0]) C tyX5 tyX5_ok rfl inX5 wd_306 wd_18 wd_16 dvX5 kk1 kl1 dX3_paymentOf_0 (fun a2 h3 na1 eh1 => ?_)
  replace hm := hm a2 h3 na1 eh1
  refine xr_dup C dX3_paymentOf_3 rfl ?_
  refine xr_cINv (n := 0) (As := []) (st := [.ref a2]) C (c_X5_init a2 h3 0 0 hm) wn_6 wd_15 wd_16 wd_14 rfl (by decide +kernel) rfl (by rw [hR.1, hR.2]; decide) (Nat.zero_add _).symm (Nat.zero_add _).symm rfl (Nat.le_of_ble_eq_true rfl) dX3_paymentOf_4 (fun h8 hn => ?_)
  clear hm
  have hm := hn
  clear hn
  refine xr_astore_n (r := (some a2)) (lv' := [(2, .ref a2), (0, va_rf rp0), (1, .int xp1)]) C dX3_paymentOf_7 (by decide) rfl ?_
  refine xr_aload_n (r := (some a2)) C dX3_paymentOf_8 0 rfl ?_
  refine xr_aload_n (r := rp0) C dX3_paymentOf_9 1 rfl ?_
  refine xr_iconst (v := 1) C dX3_paymentOf_10 rfl ?_
  obtain ⟨a12, rfl, hm⟩ := hm
  obtain ⟨⟨fs9, e9⟩, hm⟩ := hm
  refine xr_cVi (n := 1) (As := [.int 1]) (st := [.ref a2]) C (c_X2_intField a12 1 h8 0 0 hm) e9 rfl wd_305 wd_218 wd_219 wd_220 wd_217 (by decide +kernel) rfl (by rw [hR.1, hR.2]; decide) (Nat.zero_add _).symm (Nat.zero_add _).symm rfl (Nat.le_of_ble_eq_true rfl) dX3_paymentOf_11 (fun x10 h11 hn => ?_)
  clear hm
  have hm := hn
  clear hn
  obtain ⟨fs13, e13, f13, h14, eh13, hm⟩ := hm
  refine xr_put (ci := 6) (v := .int x10) C 0 .int tyX5 tyX5_ok nmX5 e13 f13 rfl inX5 (by decide) wd_296 rfl (by decide) rfl rfl eh13 dX3_paymentOf_14 ?_
  refine xr_aload_n (r := (some a2)) C dX3_paymentOf_17 0 rfl ?_
  refine xr_aload_n (r := (some a12)) C dX3_paymentOf_18 1 rfl ?_
  refine xr_iconst (v := 2) C dX3_paymentOf_19 rfl ?_
  obtain ⟨⟨fs15, e15⟩, hm⟩ := hm
  refine xr_cVi (n := 1) (As := [.int 2]) (st := [.ref a2]) C (c_X2_intField a12 2 h14 0 0 hm) e15 rfl wd_305 wd_218 wd_219 wd_220 wd_217 (by decide +kernel) rfl (by rw [hR.1, hR.2]; decide) (Nat.zero_add _).symm (Nat.zero_add _).symm rfl (Nat.le_of_ble_eq_true rfl) dX3_paymentOf_20 (fun x16 h17 hn => ?_)
  clear hm
  have hm := hn
  clear hn
  obtain ⟨fs18, e18, f18, h19, eh18, hm⟩ := hm
  refine xr_put (ci := 6) (v := .int x16) C 1 .int tyX5 tyX5_ok nmX5 e18 f18 rfl inX5 (by decide) wd_297 rfl (by decide) rfl rfl eh18 dX3_paymentOf_23 ?_
  refine xr_aload_n (r := (some a2)) C dX3_paymentOf_26 0 rfl ?_
  refine xr_aload_n (r := (some a12)) C dX3_paymentOf_27 1 rfl ?_
  obtain ⟨fs20, r21, e20, f20, hm⟩ := hm
  refine xr_get (ci := 3) C 3 e20 f20 rfl inX2 (by decide) wd_298 dX3_paymentOf_28 ?_
  refine xr_iconst (v := 3) C dX3_paymentOf_31 rfl ?_
  obtain ⟨a23, rfl, hm⟩ := hm
  obtain ⟨N22, f22, y24, e22, b22, v22, hm⟩ := hm
  refine xr_lald C 1 rfl e22 b22 v22 dX3_paymentOf_32 ?_
  obtain ⟨fs25, e25, f25, h26, eh25, hm⟩ := hm
  refine xr_put (ci := 6) (v := .long y24) C 2 .long tyX5 tyX5_ok nmX5 e25 f25 rfl inX5 (by decide) wd_299 rfl (by decide) rfl rfl eh25 dX3_paymentOf_33 ?_
  refine xr_aload_n (r := (some a2)) C dX3_paymentOf_36 0 rfl ?_
  refine xr_aload_n (r := (some a12)) C dX3_paymentOf_37 1 rfl ?_
  obtain ⟨fs27, r28, e27, f27, hm⟩ := hm
  refine xr_get (ci := 3) C 3 e27 f27 rfl inX2 (by decide) wd_298 dX3_paymentOf_38 ?_
  refine xr_iconst (v := 4) C dX3_paymentOf_41 rfl ?_
  obtain ⟨a30, rfl, hm⟩ := hm
  obtain ⟨N29, f29, y31, e29, b29, v29, hm⟩ := hm
  refine xr_lald C 1 rfl e29 b29 v29 dX3_paymentOf_42 ?_
  obtain ⟨fs32, e32, f32, h33, eh32, hm⟩ := hm
  refine xr_put (ci := 6) (v := .long y31) C 3 .long tyX5 tyX5_ok nmX5 e32 f32 rfl inX5 (by decide) wd_300 rfl (by decide) rfl rfl eh32 dX3_paymentOf_43 ?_
  refine xr_aload_n (r := (some a2)) C dX3_paymentOf_46 0 rfl ?_
  refine xr_aload_n (r := (some a12)) C dX3_paymentOf_47 1 rfl ?_
  refine xr_iconst (v := 5) C dX3_paymentOf_48 rfl ?_
  obtain ⟨⟨fs34, e34⟩, hm⟩ := hm
  refine xr_cVi (n := 1) (As := [.int 5]) (st := [.ref a2]) C (c_X2_intField a12 5 h33 0 0 hm) e34 rfl wd_305 wd_218 wd_219 wd_220 wd_217 (by decide +kernel) rfl (by rw [hR.1, hR.2]; decide) (Nat.zero_add _).symm (Nat.zero_add _).symm rfl (Nat.le_of_ble_eq_true rfl) dX3_paymentOf_49 (fun x35 h36 hn => ?_)
  clear hm
  have hm := hn
  clear hn
  obtain ⟨fs37, e37, f37, h38, eh37, hm⟩ := hm
  refine xr_put (ci := 6) (v := .int x35) C 4 .int tyX5 tyX5_ok nmX5 e37 f37 rfl inX5 (by decide) wd_301 rfl (by decide) rfl rfl eh37 dX3_paymentOf_52 ?_
  refine xr_aload_n (r := (some a2)) C dX3_paymentOf_55 0 rfl ?_
  refine xr_aload_n (r := (some a12)) C dX3_paymentOf_56 1 rfl ?_
  refine xr_bipush (v := 6) C dX3_paymentOf_57 rfl ?_
  obtain ⟨⟨fs39, e39⟩, hm⟩ := hm
  refine xr_cVi (n := 1) (As := [.int 6]) (st := [.ref a2]) C (c_X2_intField a12 6 h38 0 0 hm) e39 rfl wd_305 wd_218 wd_219 wd_220 wd_217 (by decide +kernel) rfl (by rw [hR.1, hR.2]; decide) (Nat.zero_add _).symm (Nat.zero_add _).symm rfl (Nat.le_of_ble_eq_true rfl) dX3_paymentOf_59 (fun x40 h41 hn => ?_)
  clear hm
  have hm := hn
  clear hn
  obtain ⟨fs42, e42, f42, h43, eh42, hm⟩ := hm
  refine xr_put (ci := 6) (v := .int x40) C 5 .int tyX5 tyX5_ok nmX5 e42 f42 rfl inX5 (by decide) wd_302 rfl (by decide) rfl rfl eh42 dX3_paymentOf_62 ?_
  refine xr_aload_n (r := (some a2)) C dX3_paymentOf_65 0 rfl ?_
  refine xr_iload_n C dX3_paymentOf_66 2 rfl ?_
  obtain ⟨fs44, e44, f44, h45, eh44, hm⟩ := hm
  refine xr_put (ci := 6) (v := .int xp1) C 6 .int tyX5 tyX5_ok nmX5 e44 f44 rfl inX5 (by decide) wd_303 rfl (by decide) rfl rfl eh44 dX3_paymentOf_67 ?_
  refine xr_aload_n (r := (some a2)) C dX3_paymentOf_70 0 rfl ?_
  refine xr_aload_n (r := (some a12)) C dX3_paymentOf_71 1 rfl ?_
  obtain ⟨fs46, r47, e46, f46, hm⟩ := hm
  refine xr_get (ci := 3) C 3 e46 f46 rfl inX2 (by decide) wd_298 dX3_paymentOf_72 ?_
  refine xr_bipush (v := 8) C dX3_paymentOf_75 rfl ?_
  obtain ⟨a49, rfl, hm⟩ := hm
  obtain ⟨N48, f48, y50, e48, b48, v48, hm⟩ := hm
  refine xr_lald C 1 rfl e48 b48 v48 dX3_paymentOf_77 ?_
  obtain ⟨fs51, e51, f51, h52, eh51, hm⟩ := hm
  refine xr_put (ci := 6) (v := .long y50) C 7 .long tyX5 tyX5_ok nmX5 e51 f51 rfl inX5 (by decide) wd_304 rfl (by decide) rfl rfl eh51 dX3_paymentOf_78 ?_
  refine xr_aload_n (r := (some a2)) C dX3_paymentOf_81 0 rfl ?_
  exact xr_areturn (r := (some a2)) C hr (Or.inl ⟨_, rfl⟩) hlk hm dX3_paymentOf_82
set_option maxRecDepth 100000 in
set_option maxHeartbeats 4000000 in
theorem c_X10_isTerminal {l : Launch} {D : va_G} {E : Ev} (a0 : Nat) (xp1 : Int32) (h : Hp) (kc ks : Nat) {Q : Int32 → Hp → Prop} (hm : m_X10_isTerminal E a0 xp1 h kc ks Q) : XMet l yX10_isTerminal cX10_isTerminal 2 (some .boolean) 1 20 kc ks D E h [.ref a0, .int xp1] (fun A => va_Qi Q (XPost D A) A) := by
  refine xm_of (lv0 := [(0, .ref a0), (1, .int xp1)]) (by decide) (Nat.le_of_ble_eq_true rfl) rfl RX10 rfl (fun p e s m args below meth c A R hRm C hr hlk hnm => ?_)
  have hR : R.frames = 1 ∧ R.locals = 20 := by rw [hRm]; exact ⟨rfl, rfl⟩
  refine xr_iload_n C dX10_isTerminal_0 1 rfl ?_
  refine xr_if_lt (tgt := 19) C dX10_isTerminal_1 (by decide) (fun q1 => ?_) (fun q1 => ?_)
  · replace hm := hm.1 q1
    refine xr_iconst (v := 0) C dX10_isTerminal_19 rfl ?_
    exact xr_zreturn C hr hlk (Or.inl rfl) hm dX10_isTerminal_20
  · replace hm := hm.2 q1
    refine xr_iload_n C dX10_isTerminal_4 1 rfl ?_
    refine xr_aload_n (r := (some a0)) C dX10_isTerminal_5 0 rfl ?_
    obtain ⟨fs2, r3, e2, f2, hm⟩ := hm
    refine xr_get (ci := 11) C 3 e2 f2 rfl inX10 (by decide) wd_307 dX10_isTerminal_6 ?_
    obtain ⟨a7, rfl, hm⟩ := hm
    obtain ⟨⟨fs4, e4⟩, hm⟩ := hm
    refine xr_cVi (n := 0) (As := []) (st := [.int xp1]) C (c_Jx4a65c_size_8abf5 a7 h 0 0 hm) e4 rfl wd_308 wd_113 wd_114 wd_45 wd_112 (by decide +kernel) rfl (by rw [hR.1, hR.2]; decide) (Nat.zero_add _).symm (Nat.zero_add _).symm rfl (Nat.le_of_ble_eq_true rfl) dX10_isTerminal_9 (fun x5 h6 hn => ?_)
    clear hm
    have hm := hn
    clear hn
    refine xr_icmp_ge (tgt := 19) C dX10_isTerminal_12 (by decide) (fun q8 => ?_) (fun q8 => ?_)
    · replace hm := hm.1 q8
      refine xr_iconst (v := 0) C dX10_isTerminal_19 rfl ?_
      exact xr_zreturn C hr hlk (Or.inl rfl) hm dX10_isTerminal_20
    · replace hm := hm.2 q8
      refine xr_iconst (v := 1) C dX10_isTerminal_15 rfl ?_
      refine xr_goto (tgt := 20) C dX10_isTerminal_16 (by decide) ?_
      exact xr_zreturn C hr hlk (Or.inr rfl) hm dX10_isTerminal_20
set_option maxRecDepth 100000 in
set_option maxHeartbeats 4000000 in
theorem c_X7_ofTerminal {l : Launch} {D : va_G} {E : Ev} (a0 : Nat) (xp1 : Int32) (rp2 : Option Nat) (h : Hp) (kc ks : Nat) {Q : Option Nat → Hp → Prop} (hm : m_X7_ofTerminal E a0 xp1 rp2 h kc ks Q) : XMet l yX7_ofTerminal cX7_ofTerminal 3 (some (.object "CardPayments$Seals")) 1 22 kc ks D E h [.ref a0, .int xp1, va_rf rp2] (fun A => va_Qq Q (XPost D A) A) := by
  refine xm_of (lv0 := [(0, .ref a0), (1, .int xp1), (2, va_rf rp2)]) (by decide) (by simp [lg_sl, xv_cat, xv_ci, xv_cl, xv_cr, xv_cn]) (by simp [lv_args, xv_cat, xv_ci, xv_cl, xv_cr, xv_cn]) RX7 rfl (fun p e s m args below meth c A R hRm C hr hlk hnm => ?_)
  have hR : R.frames = 1 ∧ R.locals = 22 := by rw [hRm]; exact ⟨rfl, rfl⟩
  refine xr_aload_n (r := (some a0)) C dX7_ofTerminal_0 0 rfl ?_
  refine xr_iconst (v := 1) C dX7_ofTerminal_1 rfl ?_
  refine xr_aload_n (r := rp2) C dX7_ofTerminal_2 2 rfl ?_
  obtain ⟨a2, rfl, hm⟩ := hm
  obtain ⟨fs1, x3, e1, f1, hm⟩ := hm
  refine xr_get (ci := 6) C 4 e1 f1 rfl inX5 (by decide) wd_226 dX7_ofTerminal_3 ?_
  obtain ⟨⟨fs4, e4⟩, hm⟩ := hm
  refine xr_cVq (n := 2) (As := [.int 1, .int x3]) (st := []) C (c_X7_key a0 1 x3 h 0 0 hm) e4 rfl wd_31 wd_33 wd_34 wd_30 wd_32 (by decide +kernel) rfl (by rw [hR.1, hR.2]; decide) (Nat.zero_add _).symm (Nat.zero_add _).symm rfl (Nat.le_of_ble_eq_true rfl) dX7_ofTerminal_6 (fun r5 h6 hn => ?_)
  clear hm
  have hm := hn
  clear hn
  refine xr_iload_n C dX7_ofTerminal_9 1 rfl ?_
  refine xr_i2l (v := xp1.toInt64) C dX7_ofTerminal_10 rfl ?_
  obtain ⟨a10, rfl, hm⟩ := hm
  obtain ⟨⟨fs7, e7⟩, hm⟩ := hm
  refine xr_cVq (n := 1) (As := [.long xp1.toInt64]) (st := []) C (c_X7_with a10 xp1.toInt64 h6 0 0 hm) e7 rfl wd_26 wd_28 wd_29 wd_30 wd_27 (by decide +kernel) rfl (by rw [hR.1, hR.2]; decide) (Nat.zero_add _).symm (Nat.zero_add _).symm rfl (Nat.le_of_ble_eq_true rfl) dX7_ofTerminal_11 (fun r8 h9 hn => ?_)
  clear hm
  have hm := hn
  clear hn
  refine xr_aload_n (r := (some a2)) C dX7_ofTerminal_14 2 rfl ?_
  obtain ⟨fs11, x12, e11, f11, hm⟩ := hm
  refine xr_get (ci := 6) C 0 e11 f11 rfl inX5 (by decide) wd_221 dX7_ofTerminal_15 ?_
  refine xr_i2l (v := x12.toInt64) C dX7_ofTerminal_18 rfl ?_
  obtain ⟨a16, rfl, hm⟩ := hm
  obtain ⟨⟨fs13, e13⟩, hm⟩ := hm
  refine xr_cVq (n := 1) (As := [.long x12.toInt64]) (st := []) C (c_X7_with a16 x12.toInt64 h9 0 0 hm) e13 rfl wd_26 wd_28 wd_29 wd_30 wd_27 (by decide +kernel) rfl (by rw [hR.1, hR.2]; decide) (Nat.zero_add _).symm (Nat.zero_add _).symm rfl (Nat.le_of_ble_eq_true rfl) dX7_ofTerminal_19 (fun r14 h15 hn => ?_)
  clear hm
  have hm := hn
  clear hn
  refine xr_aload_n (r := (some a2)) C dX7_ofTerminal_22 2 rfl ?_
  obtain ⟨fs17, x18, e17, f17, hm⟩ := hm
  refine xr_get (ci := 6) C 1 e17 f17 rfl inX5 (by decide) wd_227 dX7_ofTerminal_23 ?_
  refine xr_i2l (v := x18.toInt64) C dX7_ofTerminal_26 rfl ?_
  obtain ⟨a22, rfl, hm⟩ := hm
  obtain ⟨⟨fs19, e19⟩, hm⟩ := hm
  refine xr_cVq (n := 1) (As := [.long x18.toInt64]) (st := []) C (c_X7_with a22 x18.toInt64 h15 0 0 hm) e19 rfl wd_26 wd_28 wd_29 wd_30 wd_27 (by decide +kernel) rfl (by rw [hR.1, hR.2]; decide) (Nat.zero_add _).symm (Nat.zero_add _).symm rfl (Nat.le_of_ble_eq_true rfl) dX7_ofTerminal_27 (fun r20 h21 hn => ?_)
  clear hm
  have hm := hn
  clear hn
  refine xr_aload_n (r := (some a2)) C dX7_ofTerminal_30 2 rfl ?_
  obtain ⟨fs23, y24, e23, f23, hm⟩ := hm
  refine xr_get (ci := 6) C 2 e23 f23 rfl inX5 (by decide) wd_224 dX7_ofTerminal_31 ?_
  obtain ⟨a28, rfl, hm⟩ := hm
  obtain ⟨⟨fs25, e25⟩, hm⟩ := hm
  refine xr_cVq (n := 1) (As := [.long y24]) (st := []) C (c_X7_with a28 y24 h21 0 0 hm) e25 rfl wd_26 wd_28 wd_29 wd_30 wd_27 (by decide +kernel) rfl (by rw [hR.1, hR.2]; decide) (Nat.zero_add _).symm (Nat.zero_add _).symm rfl (Nat.le_of_ble_eq_true rfl) dX7_ofTerminal_34 (fun r26 h27 hn => ?_)
  clear hm
  have hm := hn
  clear hn
  refine xr_aload_n (r := (some a2)) C dX7_ofTerminal_37 2 rfl ?_
  obtain ⟨fs29, y30, e29, f29, hm⟩ := hm
  refine xr_get (ci := 6) C 3 e29 f29 rfl inX5 (by decide) wd_225 dX7_ofTerminal_38 ?_
  obtain ⟨a34, rfl, hm⟩ := hm
  obtain ⟨⟨fs31, e31⟩, hm⟩ := hm
  refine xr_cVq (n := 1) (As := [.long y30]) (st := []) C (c_X7_with a34 y30 h27 0 0 hm) e31 rfl wd_26 wd_28 wd_29 wd_30 wd_27 (by decide +kernel) rfl (by rw [hR.1, hR.2]; decide) (Nat.zero_add _).symm (Nat.zero_add _).symm rfl (Nat.le_of_ble_eq_true rfl) dX7_ofTerminal_41 (fun r32 h33 hn => ?_)
  clear hm
  have hm := hn
  clear hn
  refine xr_aload_n (r := (some a2)) C dX7_ofTerminal_44 2 rfl ?_
  obtain ⟨fs35, x36, e35, f35, hm⟩ := hm
  refine xr_get (ci := 6) C 4 e35 f35 rfl inX5 (by decide) wd_226 dX7_ofTerminal_45 ?_
  refine xr_i2l (v := x36.toInt64) C dX7_ofTerminal_48 rfl ?_
  obtain ⟨a40, rfl, hm⟩ := hm
  obtain ⟨⟨fs37, e37⟩, hm⟩ := hm
  refine xr_cVq (n := 1) (As := [.long x36.toInt64]) (st := []) C (c_X7_with a40 x36.toInt64 h33 0 0 hm) e37 rfl wd_26 wd_28 wd_29 wd_30 wd_27 (by decide +kernel) rfl (by rw [hR.1, hR.2]; decide) (Nat.zero_add _).symm (Nat.zero_add _).symm rfl (Nat.le_of_ble_eq_true rfl) dX7_ofTerminal_49 (fun r38 h39 hn => ?_)
  clear hm
  have hm := hn
  clear hn
  refine xr_aload_n (r := (some a2)) C dX7_ofTerminal_52 2 rfl ?_
  obtain ⟨fs41, x42, e41, f41, hm⟩ := hm
  refine xr_get (ci := 6) C 5 e41 f41 rfl inX5 (by decide) wd_228 dX7_ofTerminal_53 ?_
  refine xr_i2l (v := x42.toInt64) C dX7_ofTerminal_56 rfl ?_
  obtain ⟨a46, rfl, hm⟩ := hm
  obtain ⟨⟨fs43, e43⟩, hm⟩ := hm
  refine xr_cVq (n := 1) (As := [.long x42.toInt64]) (st := []) C (c_X7_with a46 x42.toInt64 h39 0 0 hm) e43 rfl wd_26 wd_28 wd_29 wd_30 wd_27 (by decide +kernel) rfl (by rw [hR.1, hR.2]; decide) (Nat.zero_add _).symm (Nat.zero_add _).symm rfl (Nat.le_of_ble_eq_true rfl) dX7_ofTerminal_57 (fun r44 h45 hn => ?_)
  clear hm
  have hm := hn
  clear hn
  refine xr_aload_n (r := (some a2)) C dX7_ofTerminal_60 2 rfl ?_
  obtain ⟨fs47, y48, e47, f47, hm⟩ := hm
  refine xr_get (ci := 6) C 7 e47 f47 rfl inX5 (by decide) wd_309 dX7_ofTerminal_61 ?_
  obtain ⟨a52, rfl, hm⟩ := hm
  obtain ⟨⟨fs49, e49⟩, hm⟩ := hm
  refine xr_cVq (n := 1) (As := [.long y48]) (st := []) C (c_X7_with a52 y48 h45 0 0 hm) e49 rfl wd_26 wd_28 wd_29 wd_30 wd_27 (by decide +kernel) rfl (by rw [hR.1, hR.2]; decide) (Nat.zero_add _).symm (Nat.zero_add _).symm rfl (Nat.le_of_ble_eq_true rfl) dX7_ofTerminal_64 (fun r50 h51 hn => ?_)
  clear hm
  have hm := hn
  clear hn
  exact xr_areturn (r := r50) C hr (Or.inl ⟨_, rfl⟩) hlk hm dX7_ofTerminal_67
set_option maxRecDepth 100000 in
set_option maxHeartbeats 4000000 in
theorem c_X3_isFromTerminal {l : Launch} {D : va_G} {E : Ev} (a0 : Nat) (rp1 : Option Nat) (rp2 : Option Nat) (h : Hp) (kc ks : Nat) {Q : Int32 → Hp → Prop} (hm : m_X3_isFromTerminal E a0 rp1 rp2 h kc ks Q) : XMet l yX3_isFromTerminal cX3_isFromTerminal 3 (some .boolean) 4 86 kc ks D E h [.ref a0, va_rf rp1, va_rf rp2] (fun A => va_Qi Q (XPost D A) A) := by
  refine xm_of (lv0 := [(0, .ref a0), (1, va_rf rp1), (2, va_rf rp2)]) (by decide) (by simp [lg_sl, xv_cat, xv_ci, xv_cl, xv_cr, xv_cn]) (by simp [lv_args, xv_cat, xv_ci, xv_cl, xv_cr, xv_cn]) RX3 rfl (fun p e s m args below meth c A R hRm C hr hlk hnm => ?_)
  have hR : R.frames = 4 ∧ R.locals = 86 := by rw [hRm]; exact ⟨rfl, rfl⟩
  refine xr_aload_n (r := (some a0)) C dX3_isFromTerminal_0 0 rfl ?_
  obtain ⟨fs1, r2, e1, f1, hm⟩ := hm
  refine xr_get (ci := 4) C 0 e1 f1 rfl inX3 (by decide) wd_290 dX3_isFromTerminal_1 ?_
  refine xr_aload_n (r := rp2) C dX3_isFromTerminal_4 2 rfl ?_
  obtain ⟨a4, rfl, hm⟩ := hm
  obtain ⟨fs3, x5, e3, f3, hm⟩ := hm
  refine xr_get (ci := 6) C 4 e3 f3 rfl inX5 (by decide) wd_301 dX3_isFromTerminal_5 ?_
  obtain ⟨a9, rfl, hm⟩ := hm
  obtain ⟨⟨fs6, e6⟩, hm⟩ := hm
  refine xr_cVi (n := 1) (As := [.int x5]) (st := []) C (c_X10_isTerminal a9 x5 h 0 0 hm) e6 rfl wd_317 wd_319 wd_320 wd_178 wd_318 (by decide +kernel) rfl (by rw [hR.1, hR.2]; decide) (Nat.zero_add _).symm (Nat.zero_add _).symm rfl (Nat.le_of_ble_eq_true rfl) dX3_isFromTerminal_8 (fun x7 h8 hn => ?_)
  clear hm
  have hm := hn
  clear hn
  refine xr_if_eq (tgt := 46) C dX3_isFromTerminal_11 (by decide) (fun q10 => ?_) (fun q10 => ?_)
  · replace hm := hm.1 q10
    refine xr_iconst (v := 0) C dX3_isFromTerminal_46 rfl ?_
    exact xr_zreturn C hr hlk (Or.inl rfl) hm dX3_isFromTerminal_47
  · replace hm := hm.2 q10
    refine xr_aload_n (r := (some a0)) C dX3_isFromTerminal_14 0 rfl ?_
    obtain ⟨fs11, r12, e11, f11, hm⟩ := hm
    refine xr_get (ci := 4) C 0 e11 f11 rfl inX3 (by decide) wd_290 dX3_isFromTerminal_15 ?_
    obtain ⟨a14, rfl, hm⟩ := hm
    obtain ⟨fs13, r15, e13, f13, hm⟩ := hm
    refine xr_get (ci := 11) C 1 e13 f13 rfl inX10 (by decide) wd_310 dX3_isFromTerminal_18 ?_
    refine xr_aload_n (r := rp1) C dX3_isFromTerminal_21 1 rfl ?_
    obtain ⟨a17, rfl, hm⟩ := hm
    obtain ⟨fs16, x18, e16, f16, hm⟩ := hm
    refine xr_get (ci := 3) C 0 e16 f16 rfl inX2 (by decide) wd_311 dX3_isFromTerminal_22 ?_
    refine xr_aload_n (r := (some a4)) C dX3_isFromTerminal_25 2 rfl ?_
    obtain ⟨a22, rfl, hm⟩ := hm
    obtain ⟨⟨fs19, e19⟩, hm⟩ := hm
    refine xr_cVq (n := 2) (As := [.int x18, .ref a4]) (st := []) C (c_X7_ofTerminal a22 x18 (some a4) h8 0 0 hm) e19 rfl wd_313 wd_315 wd_316 wd_30 wd_314 (by decide +kernel) rfl (by rw [hR.1, hR.2]; decide) (Nat.zero_add _).symm (Nat.zero_add _).symm rfl (Nat.le_of_ble_eq_true rfl) dX3_isFromTerminal_26 (fun r20 h21 hn => ?_)
    clear hm
    have hm := hn
    clear hn
    refine xr_aload_n (r := (some a17)) C dX3_isFromTerminal_29 1 rfl ?_
    obtain ⟨fs23, r24, e23, f23, hm⟩ := hm
    refine xr_get (ci := 3) C 3 e23 f23 rfl inX2 (by decide) wd_298 dX3_isFromTerminal_30 ?_
    refine xr_bipush (v := 11) C dX3_isFromTerminal_33 rfl ?_
    obtain ⟨a26, rfl, hm⟩ := hm
    obtain ⟨N25, f25, y27, e25, b25, v25, hm⟩ := hm
    refine xr_lald C 1 rfl e25 b25 v25 dX3_isFromTerminal_35 ?_
    obtain ⟨a31, rfl, hm⟩ := hm
    obtain ⟨⟨fs28, e28⟩, hm⟩ := hm
    refine xr_cVi (n := 1) (As := [.long y27]) (st := []) C (c_X7_isGood a31 y27 h21 0 0 hm) e28 rfl wd_312 wd_244 wd_245 wd_30 wd_243 (by decide +kernel) rfl (by rw [hR.1, hR.2]; decide) (Nat.zero_add _).symm (Nat.zero_add _).symm rfl (Nat.le_of_ble_eq_true rfl) dX3_isFromTerminal_36 (fun x29 h30 hn => ?_)
    clear hm
    have hm := hn
    clear hn
    refine xr_if_eq (tgt := 46) C dX3_isFromTerminal_39 (by decide) (fun q32 => ?_) (fun q32 => ?_)
    · replace hm := hm.1 q32
      refine xr_iconst (v := 0) C dX3_isFromTerminal_46 rfl ?_
      exact xr_zreturn C hr hlk (Or.inl rfl) hm dX3_isFromTerminal_47
    · replace hm := hm.2 q32
      refine xr_iconst (v := 1) C dX3_isFromTerminal_42 rfl ?_
      refine xr_goto (tgt := 47) C dX3_isFromTerminal_43 (by decide) ?_
      exact xr_zreturn C hr hlk (Or.inr rfl) hm dX3_isFromTerminal_47
set_option maxRecDepth 100000 in
set_option maxHeartbeats 4000000 in
theorem c_X3_isAnswerOfCard {l : Launch} {D : va_G} {E : Ev} (a0 : Nat) (rp1 : Option Nat) (h : Hp) (kc ks : Nat) {Q : Int32 → Hp → Prop} (hm : m_X3_isAnswerOfCard E a0 rp1 h kc ks Q) : XMet l yX3_isAnswerOfCard cX3_isAnswerOfCard 2 (some .boolean) 4 86 kc ks D E h [.ref a0, va_rf rp1] (fun A => va_Qi Q (XPost D A) A) := by
  refine xm_of (lv0 := [(0, .ref a0), (1, va_rf rp1)]) (by decide) (by simp [lg_sl, xv_cat, xv_ci, xv_cl, xv_cr, xv_cn]) (by simp [lv_args, xv_cat, xv_ci, xv_cl, xv_cr, xv_cn]) RX3 rfl (fun p e s m args below meth c A R hRm C hr hlk hnm => ?_)
  have hR : R.frames = 4 ∧ R.locals = 86 := by rw [hRm]; exact ⟨rfl, rfl⟩
  refine xr_aload_n (r := rp1) C dX3_isAnswerOfCard_0 1 rfl ?_
  obtain ⟨a2, rfl, hm⟩ := hm
  obtain ⟨fs1, x3, e1, f1, hm⟩ := hm
  refine xr_get (ci := 6) C 0 e1 f1 rfl inX5 (by decide) wd_296 dX3_isAnswerOfCard_1 ?_
  refine xr_aload_n (r := (some a0)) C dX3_isAnswerOfCard_4 0 rfl ?_
  obtain ⟨fs4, r5, e4, f4, hm⟩ := hm
  refine xr_get (ci := 4) C 1 e4 f4 rfl inX3 (by decide) wd_288 dX3_isAnswerOfCard_5 ?_
  obtain ⟨a9, rfl, hm⟩ := hm
  obtain ⟨⟨fs6, e6⟩, hm⟩ := hm
  refine xr_cVi (n := 0) (As := []) (st := [.int x3]) C (c_Jx4a65c_size_8abf5 a9 h 0 0 hm) e6 rfl wd_322 wd_113 wd_114 wd_45 wd_112 (by decide +kernel) rfl (by rw [hR.1, hR.2]; decide) (Nat.zero_add _).symm (Nat.zero_add _).symm rfl (Nat.le_of_ble_eq_true rfl) dX3_isAnswerOfCard_8 (fun x7 h8 hn => ?_)
  clear hm
  have hm := hn
  clear hn
  refine xr_icmp_ge (tgt := 39) C dX3_isAnswerOfCard_11 (by decide) (fun q10 => ?_) (fun q10 => ?_)
  · replace hm := hm.1 q10
    refine xr_iconst (v := 0) C dX3_isAnswerOfCard_39 rfl ?_
    exact xr_zreturn C hr hlk (Or.inl rfl) hm dX3_isAnswerOfCard_40
  · replace hm := hm.2 q10
    refine xr_aload_n (r := (some a0)) C dX3_isAnswerOfCard_14 0 rfl ?_
    obtain ⟨fs11, r12, e11, f11, hm⟩ := hm
    refine xr_get (ci := 4) C 0 e11 f11 rfl inX3 (by decide) wd_290 dX3_isAnswerOfCard_15 ?_
    obtain ⟨a14, rfl, hm⟩ := hm
    obtain ⟨fs13, r15, e13, f13, hm⟩ := hm
    refine xr_get (ci := 11) C 1 e13 f13 rfl inX10 (by decide) wd_310 dX3_isAnswerOfCard_18 ?_
    refine xr_aload_n (r := (some a2)) C dX3_isAnswerOfCard_21 1 rfl ?_
    obtain ⟨a19, rfl, hm⟩ := hm
    obtain ⟨⟨fs16, e16⟩, hm⟩ := hm
    refine xr_cVq (n := 1) (As := [.ref a2]) (st := []) C (c_X7_ofAnswer a19 (some a2) h8 0 0 hm) e16 rfl wd_321 wd_239 wd_240 wd_30 wd_238 (by decide +kernel) rfl (by rw [hR.1, hR.2]; decide) (Nat.zero_add _).symm (Nat.zero_add _).symm rfl (Nat.le_of_ble_eq_true rfl) dX3_isAnswerOfCard_22 (fun r17 h18 hn => ?_)
    clear hm
    have hm := hn
    clear hn
    refine xr_aload_n (r := (some a2)) C dX3_isAnswerOfCard_25 1 rfl ?_
    obtain ⟨fs20, y21, e20, f20, hm⟩ := hm
    refine xr_get (ci := 6) C 7 e20 f20 rfl inX5 (by decide) wd_304 dX3_isAnswerOfCard_26 ?_
    obtain ⟨a25, rfl, hm⟩ := hm
    obtain ⟨⟨fs22, e22⟩, hm⟩ := hm
    refine xr_cVi (n := 1) (As := [.long y21]) (st := []) C (c_X7_isGood a25 y21 h18 0 0 hm) e22 rfl wd_312 wd_244 wd_245 wd_30 wd_243 (by decide +kernel) rfl (by rw [hR.1, hR.2]; decide) (Nat.zero_add _).symm (Nat.zero_add _).symm rfl (Nat.le_of_ble_eq_true rfl) dX3_isAnswerOfCard_29 (fun x23 h24 hn => ?_)
    clear hm
    have hm := hn
    clear hn
    refine xr_if_eq (tgt := 39) C dX3_isAnswerOfCard_32 (by decide) (fun q26 => ?_) (fun q26 => ?_)
    · replace hm := hm.1 q26
      refine xr_iconst (v := 0) C dX3_isAnswerOfCard_39 rfl ?_
      exact xr_zreturn C hr hlk (Or.inl rfl) hm dX3_isAnswerOfCard_40
    · replace hm := hm.2 q26
      refine xr_iconst (v := 1) C dX3_isAnswerOfCard_35 rfl ?_
      refine xr_goto (tgt := 40) C dX3_isAnswerOfCard_36 (by decide) ?_
      exact xr_zreturn C hr hlk (Or.inr rfl) hm dX3_isAnswerOfCard_40
set_option maxRecDepth 100000 in
set_option maxHeartbeats 4000000 in
theorem c_X3_take {l : Launch} {D : va_G} {E : Ev} (a0 : Nat) (rp1 : Option Nat) (rp2 : Option Nat) (h : Hp) (kc ks : Nat) {Q : Hp → Prop} (hm : m_X3_take E a0 rp1 rp2 h kc ks Q) : XMet l yX3_take cX3_take 3 none 7 191 kc ks D E h [.ref a0, va_rf rp1, va_rf rp2] (fun A => va_Qv Q (XPost D A) A) := by
  refine xm_of (lv0 := [(0, .ref a0), (1, va_rf rp1), (2, va_rf rp2)]) (by decide) (by simp [lg_sl, xv_cat, xv_ci, xv_cl, xv_cr, xv_cn]) (by simp [lv_args, xv_cat, xv_ci, xv_cl, xv_cr, xv_cn]) RX3 rfl (fun p e s m args below meth c A R hRm C hr hlk hnm => ?_)
  have hR : R.frames = 7 ∧ R.locals = 191 := by rw [hRm]; exact ⟨rfl, rfl⟩
  refine xr_aload_n (r := rp1) C dX3_take_0 1 rfl ?_
  refine xr_dup C dX3_take_1 (xv_cat _) ?_
  obtain ⟨a2, rfl, hm⟩ := hm
  obtain ⟨fs1, y3, e1, f1, hm⟩ := hm
  refine xr_get (ci := 1) C 0 e1 f1 rfl inX0 (by decide) wd_323 dX3_take_2 ?_
  refine xr_aload_n (r := rp2) C dX3_take_5 2 rfl ?_
  obtain ⟨a5, rfl, hm⟩ := hm
  obtain ⟨fs4, y6, e4, f4, hm⟩ := hm
  refine xr_get (ci := 6) C 2 e4 f4 rfl inX5 (by decide) wd_299 dX3_take_6 ?_
  refine xr_lsub C dX3_take_9 ?_
  obtain ⟨fs7, e7, f7, h8, eh7, hm⟩ := hm
  refine xr_put (ci := 1) (v := .long (y3 - y6)) C 0 .long tyX0 tyX0_ok nmX0 e7 f7 rfl inX0 (by decide) wd_323 rfl (by decide) rfl rfl eh7 dX3_take_10 ?_
  refine xr_aload_n (r := (some a0)) C dX3_take_13 0 rfl ?_
  obtain ⟨fs9, r10, e9, f9, hm⟩ := hm
  refine xr_get (ci := 4) C 2 e9 f9 rfl inX3 (by decide) wd_289 dX3_take_14 ?_
  refine xr_aload_n (r := (some a5)) C dX3_take_17 2 rfl ?_
  obtain ⟨a18, rfl, hm⟩ := hm
  obtain ⟨⟨fs11, e11⟩, hm⟩ := hm
  obtain ⟨mc12, ms13, kc14, ks15, kk11, kl11, hm⟩ := hm
  refine xr_cVi (n := 1) (As := [.ref a5]) (st := []) C (c_Jx4a65c_add_9ea2d a18 (some a5) h8 mc12 ms13 hm) e11 rfl wd_324 wd_117 wd_118 wd_45 wd_116 (by decide +kernel) rfl (by rw [hR.1, hR.2]; decide) kk11 kl11 rfl (Nat.le_of_ble_eq_true rfl) dX3_take_18 (fun x16 h17 hn => ?_)
  clear hm
  have hm := hn
  clear hn
  refine xr_pop C dX3_take_21 rfl ?_
  exact xr_vreturn C hr hlk hm dX3_take_22
set_option maxRecDepth 100000 in
set_option maxHeartbeats 4000000 in
theorem c_X3_wordFor {l : Launch} {D : va_G} {E : Ev} (a0 : Nat) (rp1 : Option Nat) (h : Hp) (kc ks : Nat) {Q : Int32 → Hp → Prop} (hm : m_X3_wordFor E a0 rp1 h kc ks Q) : XMet l yX3_wordFor cX3_wordFor 3 (some .int) 8 213 kc ks D E h [.ref a0, va_rf rp1] (fun A => va_Qi Q (XPost D A) A) := by
  refine xm_of (lv0 := [(0, .ref a0), (1, va_rf rp1)]) (by decide) (by simp [lg_sl, xv_cat, xv_ci, xv_cl, xv_cr, xv_cn]) (by simp [lv_args, xv_cat, xv_ci, xv_cl, xv_cr, xv_cn]) RX3 rfl (fun p e s m args below meth c A R hRm C hr hlk hnm => ?_)
  have hR : R.frames = 8 ∧ R.locals = 213 := by rw [hRm]; exact ⟨rfl, rfl⟩
  refine xr_aload_n (r := (some a0)) C dX3_wordFor_0 0 rfl ?_
  refine xr_aload_n (r := rp1) C dX3_wordFor_1 1 rfl ?_
  obtain ⟨⟨fs1, e1⟩, hm⟩ := hm
  refine xr_cVi (n := 1) (As := [va_rf rp1]) (st := []) C (c_X3_isAnswerOfCard a0 rp1 h 0 0 hm) e1 rfl wd_333 wd_335 wd_336 wd_330 wd_334 (by decide +kernel) rfl (by rw [hR.1, hR.2]; decide) (Nat.zero_add _).symm (Nat.zero_add _).symm rfl (Nat.le_of_ble_eq_true rfl) dX3_wordFor_2 (fun x2 h3 hn => ?_)
  clear hm
  have hm := hn
  clear hn
  refine xr_if_ne (tgt := 10) C dX3_wordFor_5 (by decide) (fun q4 => ?_) (fun q4 => ?_)
  · replace hm := hm.2 q4
    refine xr_aload_n (r := (some a0)) C dX3_wordFor_10 0 rfl ?_
    obtain ⟨fs5, r6, e5, f5, hm⟩ := hm
    refine xr_get (ci := 4) C 1 e5 f5 rfl inX3 (by decide) wd_288 dX3_wordFor_11 ?_
    refine xr_aload_n (r := rp1) C dX3_wordFor_14 1 rfl ?_
    obtain ⟨a8, rfl, hm⟩ := hm
    obtain ⟨fs7, x9, e7, f7, hm⟩ := hm
    refine xr_get (ci := 6) C 0 e7 f7 rfl inX5 (by decide) wd_296 dX3_wordFor_15 ?_
    obtain ⟨a13, rfl, hm⟩ := hm
    obtain ⟨⟨fs10, e10⟩, hm⟩ := hm
    refine xr_cVq (n := 1) (As := [.int x9]) (st := []) C (c_Jx4a65c_get_915e3 a13 x9 h3 0 0 hm) e10 rfl wd_332 wd_134 wd_135 wd_45 wd_133 (by decide +kernel) rfl (by rw [hR.1, hR.2]; decide) (Nat.zero_add _).symm (Nat.zero_add _).symm rfl (Nat.le_of_ble_eq_true rfl) dX3_wordFor_18 (fun r11 h12 hn => ?_)
    clear hm
    have hm := hn
    clear hn
    obtain ⟨a15, rfl, hm⟩ := hm
    obtain ⟨⟨fs14, e14⟩, hm⟩ := hm
    refine xr_cast C e14 rfl wd_331 dX3_wordFor_21 ?_
    refine xr_astore_n (r := (some a15)) (lv' := [(2, .ref a15), (0, .ref a0), (1, .ref a8)]) C dX3_wordFor_24 (by decide) rfl ?_
    refine xr_aload_n (r := (some a8)) C dX3_wordFor_25 2 rfl ?_
    obtain ⟨fs16, x17, e16, f16, hm⟩ := hm
    refine xr_get (ci := 6) C 1 e16 f16 rfl inX5 (by decide) wd_297 dX3_wordFor_26 ?_
    refine xr_aload_n (r := (some a15)) C dX3_wordFor_29 0 rfl ?_
    obtain ⟨fs18, x19, e18, f18, hm⟩ := hm
    refine xr_get (ci := 1) C 1 e18 f18 rfl inX0 (by decide) wd_325 dX3_wordFor_30 ?_
    refine xr_icmp_gt (tgt := 38) C dX3_wordFor_33 (by decide) (fun q20 => ?_) (fun q20 => ?_)
    · replace hm := hm.1 q20
      refine xr_aload_n (r := (some a15)) C dX3_wordFor_38 0 rfl ?_
      refine xr_aload_n (r := (some a8)) C dX3_wordFor_39 2 rfl ?_
      obtain ⟨fs21, x22, e21, f21, hm⟩ := hm
      refine xr_get (ci := 6) C 1 e21 f21 rfl inX5 (by decide) wd_297 dX3_wordFor_40 ?_
      obtain ⟨fs23, e23, f23, h24, eh23, hm⟩ := hm
      refine xr_put (ci := 1) (v := .int x22) C 1 .int tyX0 tyX0_ok nmX0 e23 f23 rfl inX0 (by decide) wd_325 rfl (by decide) rfl rfl eh23 dX3_wordFor_43 ?_
      refine xr_aload_n (r := (some a15)) C dX3_wordFor_46 0 rfl ?_
      obtain ⟨fs25, y26, e25, f25, hm⟩ := hm
      refine xr_get (ci := 1) C 0 e25 f25 rfl inX0 (by decide) wd_323 dX3_wordFor_47 ?_
      refine xr_aload_n (r := (some a8)) C dX3_wordFor_50 2 rfl ?_
      obtain ⟨fs27, y28, e27, f27, hm⟩ := hm
      refine xr_get (ci := 6) C 2 e27 f27 rfl inX5 (by decide) wd_299 dX3_wordFor_51 ?_
      refine xr_lcmp C dX3_wordFor_54 ?_
      refine xr_if_ge (tgt := 60) C dX3_wordFor_55 (by decide) (fun q29 => ?_) (fun q29 => ?_)
      · replace hm := hm.1 q29
        refine xr_aload_n (r := (some a0)) C dX3_wordFor_60 1 rfl ?_
        refine xr_aload_n (r := (some a15)) C dX3_wordFor_61 0 rfl ?_
        refine xr_aload_n (r := (some a8)) C dX3_wordFor_62 2 rfl ?_
        obtain ⟨⟨fs30, e30⟩, hm⟩ := hm
        obtain ⟨mc31, ms32, kc33, ks34, kk30, kl30, hm⟩ := hm
        refine xr_cVv (n := 2) (As := [.ref a15, .ref a8]) (st := []) C (c_X3_take a0 (some a15) (some a8) h24 mc31 ms32 hm) e30 rfl wd_326 wd_328 wd_329 wd_330 wd_327 (by decide +kernel) rfl (by rw [hR.1, hR.2]; decide) kk30 kl30 rfl (Nat.le_of_ble_eq_true rfl) dX3_wordFor_63 (fun h36 hn => ?_)
        clear hm
        have hm := hn
        clear hn
        refine xr_iconst (v := 1) C dX3_wordFor_66 rfl ?_
        exact xr_ireturn C hr hlk hm dX3_wordFor_67
      · replace hm := hm.2 q29
        refine xr_iconst (v := 0) C dX3_wordFor_58 rfl ?_
        exact xr_ireturn C hr hlk hm dX3_wordFor_59
    · replace hm := hm.2 q20
      refine xr_iconst (v := 0) C dX3_wordFor_36 rfl ?_
      exact xr_ireturn C hr hlk hm dX3_wordFor_37
  · replace hm := hm.1 q4
    refine xr_iconst (v := 0) C dX3_wordFor_8 rfl ?_
    exact xr_ireturn C hr hlk hm dX3_wordFor_9
set_option maxRecDepth 100000 in
set_option maxHeartbeats 4000000 in
theorem c_X7_ofWordToTerminal {l : Launch} {D : va_G} {E : Ev} (a0 : Nat) (rp1 : Option Nat) (xp2 : Int32) (h : Hp) (kc ks : Nat) {Q : Option Nat → Hp → Prop} (hm : m_X7_ofWordToTerminal E a0 rp1 xp2 h kc ks Q) : XMet l yX7_ofWordToTerminal cX7_ofWordToTerminal 3 (some (.object "CardPayments$Seals")) 1 22 kc ks D E h [.ref a0, va_rf rp1, .int xp2] (fun A => va_Qq Q (XPost D A) A) := by
  refine xm_of (lv0 := [(0, .ref a0), (1, va_rf rp1), (2, .int xp2)]) (by decide) (by simp [lg_sl, xv_cat, xv_ci, xv_cl, xv_cr, xv_cn]) (by simp [lv_args, xv_cat, xv_ci, xv_cl, xv_cr, xv_cn]) RX7 rfl (fun p e s m args below meth c A R hRm C hr hlk hnm => ?_)
  have hR : R.frames = 1 ∧ R.locals = 22 := by rw [hRm]; exact ⟨rfl, rfl⟩
  refine xr_aload_n (r := (some a0)) C dX7_ofWordToTerminal_0 0 rfl ?_
  refine xr_iconst (v := 1) C dX7_ofWordToTerminal_1 rfl ?_
  refine xr_aload_n (r := rp1) C dX7_ofWordToTerminal_2 1 rfl ?_
  obtain ⟨a2, rfl, hm⟩ := hm
  obtain ⟨fs1, x3, e1, f1, hm⟩ := hm
  refine xr_get (ci := 6) C 4 e1 f1 rfl inX5 (by decide) wd_226 dX7_ofWordToTerminal_3 ?_
  obtain ⟨⟨fs4, e4⟩, hm⟩ := hm
  refine xr_cVq (n := 2) (As := [.int 1, .int x3]) (st := []) C (c_X7_key a0 1 x3 h 0 0 hm) e4 rfl wd_31 wd_33 wd_34 wd_30 wd_32 (by decide +kernel) rfl (by rw [hR.1, hR.2]; decide) (Nat.zero_add _).symm (Nat.zero_add _).symm rfl (Nat.le_of_ble_eq_true rfl) dX7_ofWordToTerminal_6 (fun r5 h6 hn => ?_)
  clear hm
  have hm := hn
  clear hn
  refine xr_ldc2 (v := 8) C dX7_ofWordToTerminal_9 wd_241 ?_
  obtain ⟨a10, rfl, hm⟩ := hm
  obtain ⟨⟨fs7, e7⟩, hm⟩ := hm
  refine xr_cVq (n := 1) (As := [.long 8]) (st := []) C (c_X7_with a10 8 h6 0 0 hm) e7 rfl wd_26 wd_28 wd_29 wd_30 wd_27 (by decide +kernel) rfl (by rw [hR.1, hR.2]; decide) (Nat.zero_add _).symm (Nat.zero_add _).symm rfl (Nat.le_of_ble_eq_true rfl) dX7_ofWordToTerminal_12 (fun r8 h9 hn => ?_)
  clear hm
  have hm := hn
  clear hn
  refine xr_aload_n (r := (some a2)) C dX7_ofWordToTerminal_15 1 rfl ?_
  obtain ⟨fs11, x12, e11, f11, hm⟩ := hm
  refine xr_get (ci := 6) C 0 e11 f11 rfl inX5 (by decide) wd_221 dX7_ofWordToTerminal_16 ?_
  refine xr_i2l (v := x12.toInt64) C dX7_ofWordToTerminal_19 rfl ?_
  obtain ⟨a16, rfl, hm⟩ := hm
  obtain ⟨⟨fs13, e13⟩, hm⟩ := hm
  refine xr_cVq (n := 1) (As := [.long x12.toInt64]) (st := []) C (c_X7_with a16 x12.toInt64 h9 0 0 hm) e13 rfl wd_26 wd_28 wd_29 wd_30 wd_27 (by decide +kernel) rfl (by rw [hR.1, hR.2]; decide) (Nat.zero_add _).symm (Nat.zero_add _).symm rfl (Nat.le_of_ble_eq_true rfl) dX7_ofWordToTerminal_20 (fun r14 h15 hn => ?_)
  clear hm
  have hm := hn
  clear hn
  refine xr_aload_n (r := (some a2)) C dX7_ofWordToTerminal_23 1 rfl ?_
  obtain ⟨fs17, x18, e17, f17, hm⟩ := hm
  refine xr_get (ci := 6) C 1 e17 f17 rfl inX5 (by decide) wd_227 dX7_ofWordToTerminal_24 ?_
  refine xr_i2l (v := x18.toInt64) C dX7_ofWordToTerminal_27 rfl ?_
  obtain ⟨a22, rfl, hm⟩ := hm
  obtain ⟨⟨fs19, e19⟩, hm⟩ := hm
  refine xr_cVq (n := 1) (As := [.long x18.toInt64]) (st := []) C (c_X7_with a22 x18.toInt64 h15 0 0 hm) e19 rfl wd_26 wd_28 wd_29 wd_30 wd_27 (by decide +kernel) rfl (by rw [hR.1, hR.2]; decide) (Nat.zero_add _).symm (Nat.zero_add _).symm rfl (Nat.le_of_ble_eq_true rfl) dX7_ofWordToTerminal_28 (fun r20 h21 hn => ?_)
  clear hm
  have hm := hn
  clear hn
  refine xr_iload_n C dX7_ofWordToTerminal_31 2 rfl ?_
  refine xr_i2l (v := xp2.toInt64) C dX7_ofWordToTerminal_32 rfl ?_
  obtain ⟨a26, rfl, hm⟩ := hm
  obtain ⟨⟨fs23, e23⟩, hm⟩ := hm
  refine xr_cVq (n := 1) (As := [.long xp2.toInt64]) (st := []) C (c_X7_with a26 xp2.toInt64 h21 0 0 hm) e23 rfl wd_26 wd_28 wd_29 wd_30 wd_27 (by decide +kernel) rfl (by rw [hR.1, hR.2]; decide) (Nat.zero_add _).symm (Nat.zero_add _).symm rfl (Nat.le_of_ble_eq_true rfl) dX7_ofWordToTerminal_33 (fun r24 h25 hn => ?_)
  clear hm
  have hm := hn
  clear hn
  refine xr_aload_n (r := (some a2)) C dX7_ofWordToTerminal_36 1 rfl ?_
  obtain ⟨fs27, y28, e27, f27, hm⟩ := hm
  refine xr_get (ci := 6) C 2 e27 f27 rfl inX5 (by decide) wd_224 dX7_ofWordToTerminal_37 ?_
  obtain ⟨a32, rfl, hm⟩ := hm
  obtain ⟨⟨fs29, e29⟩, hm⟩ := hm
  refine xr_cVq (n := 1) (As := [.long y28]) (st := []) C (c_X7_with a32 y28 h25 0 0 hm) e29 rfl wd_26 wd_28 wd_29 wd_30 wd_27 (by decide +kernel) rfl (by rw [hR.1, hR.2]; decide) (Nat.zero_add _).symm (Nat.zero_add _).symm rfl (Nat.le_of_ble_eq_true rfl) dX7_ofWordToTerminal_40 (fun r30 h31 hn => ?_)
  clear hm
  have hm := hn
  clear hn
  exact xr_areturn (r := r30) C hr (Or.inl ⟨_, rfl⟩) hlk hm dX7_ofWordToTerminal_43
set_option maxRecDepth 100000 in
set_option maxHeartbeats 4000000 in
theorem c_X3_takesRequest {l : Launch} {D : va_G} {E : Ev} (a0 : Nat) (rp1 : Option Nat) (h : Hp) (kc ks : Nat) {Q : Int32 → Hp → Prop} (hm : m_X3_takesRequest E a0 rp1 h kc ks Q) : XMet l yX3_takesRequest cX3_takesRequest 4 (some .boolean) 9 235 kc ks D E h [.ref a0, va_rf rp1] (fun A => va_Qi Q (XPost D A) A) := by
  refine xm_of (lv0 := [(0, .ref a0), (1, va_rf rp1)]) (by decide) (by simp [lg_sl, xv_cat, xv_ci, xv_cl, xv_cr, xv_cn]) (by simp [lv_args, xv_cat, xv_ci, xv_cl, xv_cr, xv_cn]) RX3 rfl (fun p e s m args below meth c A R hRm C hr hlk hnm => ?_)
  have hR : R.frames = 9 ∧ R.locals = 235 := by rw [hRm]; exact ⟨rfl, rfl⟩
  refine xr_aload_n (r := rp1) C dX3_takesRequest_0 1 rfl ?_
  refine xr_iconst (v := 1) C dX3_takesRequest_1 rfl ?_
  obtain ⟨mc2, ms3, kc4, ks5, kk1, kl1, hm⟩ := hm
  refine xr_cSq (n := 2) (As := [va_rf rp1, .int 1]) (st := []) C (c_X3_paymentOf rp1 1 h mc2 ms3 hm) wd_353 wd_355 wd_330 wd_354 (by decide +kernel) rfl (by rw [hR.1, hR.2]; decide) kk1 kl1 rfl (Nat.le_of_ble_eq_true rfl) dX3_takesRequest_2 (fun r6 h7 hn => ?_)
  clear hm
  have hm := hn
  clear hn
  refine xr_astore_n (r := r6) (lv' := [(2, va_rf r6), (0, .ref a0), (1, va_rf rp1)]) C dX3_takesRequest_5 (by decide) (by simp [xv_put1, xv_cat, xv_ci, xv_cl, xv_cr, xv_cn] <;> decide) ?_
  refine xr_aload_n (r := (some a0)) C dX3_takesRequest_6 1 rfl ?_
  refine xr_aload_n (r := rp1) C dX3_takesRequest_7 2 rfl ?_
  refine xr_aload_n (r := r6) C dX3_takesRequest_8 0 rfl ?_
  obtain ⟨⟨fs8, e8⟩, hm⟩ := hm
  refine xr_cVi (n := 2) (As := [va_rf rp1, va_rf r6]) (st := []) C (c_X3_isFromTerminal a0 rp1 r6 h7 0 0 hm) e8 rfl wd_349 wd_351 wd_352 wd_330 wd_350 (by decide +kernel) rfl (by rw [hR.1, hR.2]; decide) (Nat.zero_add _).symm (Nat.zero_add _).symm rfl (Nat.le_of_ble_eq_true rfl) dX3_takesRequest_9 (fun x9 h10 hn => ?_)
  clear hm
  have hm := hn
  clear hn
  refine xr_if_ne (tgt := 17) C dX3_takesRequest_12 (by decide) (fun q11 => ?_) (fun q11 => ?_)
  · replace hm := hm.2 q11
    refine xr_aload_n (r := (some a0)) C dX3_takesRequest_17 1 rfl ?_
    refine xr_aload_n (r := r6) C dX3_takesRequest_18 0 rfl ?_
    obtain ⟨⟨fs12, e12⟩, hm⟩ := hm
    obtain ⟨mc13, ms14, kc15, ks16, kk12, kl12, hm⟩ := hm
    refine xr_cVi (n := 1) (As := [va_rf r6]) (st := []) C (c_X3_wordFor a0 r6 h10 mc13 ms14 hm) e12 rfl wd_345 wd_347 wd_348 wd_330 wd_346 (by decide +kernel) rfl (by rw [hR.1, hR.2]; decide) kk12 kl12 rfl (Nat.le_of_ble_eq_true rfl) dX3_takesRequest_19 (fun x17 h18 hn => ?_)
    clear hm
    have hm := hn
    clear hn
    refine xr_istore_n (lv' := [(3, .int x17), (2, va_rf r6), (0, .ref a0), (1, va_rf rp1)]) C dX3_takesRequest_22 (by decide) (by simp [xv_put1, xv_cat, xv_ci, xv_cl, xv_cr, xv_cn] <;> decide) ?_
    refine xr_aload_n (r := (some a0)) C dX3_takesRequest_23 2 rfl ?_
    obtain ⟨fs19, r20, e19, f19, hm⟩ := hm
    refine xr_get (ci := 4) C 0 e19 f19 rfl inX3 (by decide) wd_290 dX3_takesRequest_24 ?_
    obtain ⟨a22, rfl, hm⟩ := hm
    obtain ⟨fs21, r23, e21, f21, hm⟩ := hm
    refine xr_get (ci := 11) C 7 e21 f21 rfl inX10 (by decide) wd_337 dX3_takesRequest_27 ?_
    obtain ⟨a25, rfl, hm⟩ := hm
    obtain ⟨fs24, r26, e24, f24, hm⟩ := hm
    refine xr_get (ci := 3) C 3 e24 f24 rfl inX2 (by decide) wd_298 dX3_takesRequest_30 ?_
    refine xr_iconst (v := 1) C dX3_takesRequest_33 rfl ?_
    refine xr_aload_n (r := r6) C dX3_takesRequest_34 1 rfl ?_
    obtain ⟨a28, rfl, hm⟩ := hm
    obtain ⟨fs27, x29, e27, f27, hm⟩ := hm
    refine xr_get (ci := 6) C 0 e27 f27 rfl inX5 (by decide) wd_296 dX3_takesRequest_35 ?_
    refine xr_i2l (v := x29.toInt64) C dX3_takesRequest_38 rfl ?_
    obtain ⟨a31, rfl, hm⟩ := hm
    obtain ⟨N30, f30, e30, b30, h32, v30, hm⟩ := hm
    refine xr_last C 1 rfl e30 b30 v30 dX3_takesRequest_39 ?_
    refine xr_aload_n (r := (some a0)) C dX3_takesRequest_40 2 rfl ?_
    obtain ⟨fs33, r34, e33, f33, hm⟩ := hm
    refine xr_get (ci := 4) C 0 e33 f33 rfl inX3 (by decide) wd_290 dX3_takesRequest_41 ?_
    obtain ⟨a36, rfl, hm⟩ := hm
    obtain ⟨fs35, r37, e35, f35, hm⟩ := hm
    refine xr_get (ci := 11) C 7 e35 f35 rfl inX10 (by decide) wd_337 dX3_takesRequest_44 ?_
    obtain ⟨a39, rfl, hm⟩ := hm
    obtain ⟨fs38, r40, e38, f38, hm⟩ := hm
    refine xr_get (ci := 3) C 3 e38 f38 rfl inX2 (by decide) wd_298 dX3_takesRequest_47 ?_
    refine xr_iconst (v := 2) C dX3_takesRequest_50 rfl ?_
    refine xr_aload_n (r := (some a28)) C dX3_takesRequest_51 1 rfl ?_
    obtain ⟨fs41, x42, e41, f41, hm⟩ := hm
    refine xr_get (ci := 6) C 1 e41 f41 rfl inX5 (by decide) wd_297 dX3_takesRequest_52 ?_
    refine xr_i2l (v := x42.toInt64) C dX3_takesRequest_55 rfl ?_
    obtain ⟨a44, rfl, hm⟩ := hm
    obtain ⟨N43, f43, e43, b43, h45, v43, hm⟩ := hm
    refine xr_last C 1 rfl e43 b43 v43 dX3_takesRequest_56 ?_
    refine xr_aload_n (r := (some a0)) C dX3_takesRequest_57 2 rfl ?_
    obtain ⟨fs46, r47, e46, f46, hm⟩ := hm
    refine xr_get (ci := 4) C 0 e46 f46 rfl inX3 (by decide) wd_290 dX3_takesRequest_58 ?_
    obtain ⟨a49, rfl, hm⟩ := hm
    obtain ⟨fs48, r50, e48, f48, hm⟩ := hm
    refine xr_get (ci := 11) C 7 e48 f48 rfl inX10 (by decide) wd_337 dX3_takesRequest_61 ?_
    obtain ⟨a52, rfl, hm⟩ := hm
    obtain ⟨fs51, r53, e51, f51, hm⟩ := hm
    refine xr_get (ci := 3) C 3 e51 f51 rfl inX2 (by decide) wd_298 dX3_takesRequest_64 ?_
    refine xr_bipush (v := 8) C dX3_takesRequest_67 rfl ?_
    refine xr_aload_n (r := (some a0)) C dX3_takesRequest_69 2 rfl ?_
    obtain ⟨fs54, r55, e54, f54, hm⟩ := hm
    refine xr_get (ci := 4) C 0 e54 f54 rfl inX3 (by decide) wd_290 dX3_takesRequest_70 ?_
    obtain ⟨a57, rfl, hm⟩ := hm
    obtain ⟨fs56, r58, e56, f56, hm⟩ := hm
    refine xr_get (ci := 11) C 1 e56 f56 rfl inX10 (by decide) wd_310 dX3_takesRequest_73 ?_
    refine xr_aload_n (r := (some a28)) C dX3_takesRequest_76 1 rfl ?_
    obtain ⟨fs59, x60, e59, f59, hm⟩ := hm
    refine xr_get (ci := 6) C 0 e59 f59 rfl inX5 (by decide) wd_296 dX3_takesRequest_77 ?_
    refine xr_aload_n (r := (some a28)) C dX3_takesRequest_80 1 rfl ?_
    obtain ⟨fs61, x62, e61, f61, hm⟩ := hm
    refine xr_get (ci := 6) C 1 e61 f61 rfl inX5 (by decide) wd_297 dX3_takesRequest_81 ?_
    refine xr_iload_n C dX3_takesRequest_84 0 rfl ?_
    obtain ⟨a66, rfl, hm⟩ := hm
    obtain ⟨⟨fs63, e63⟩, hm⟩ := hm
    refine xr_cVq (n := 3) (As := [.int x60, .int x62, .int x17]) (st := [.int 8, va_rf r53]) C (c_X7_ofWordToCard a66 x60 x62 x17 h45 0 0 hm) e63 rfl wd_344 wd_248 wd_249 wd_30 wd_247 (by decide +kernel) rfl (by rw [hR.1, hR.2]; decide) (Nat.zero_add _).symm (Nat.zero_add _).symm rfl (by simp [xv_cat, xv_ci, xv_cl, xv_cr, xv_cn]) dX3_takesRequest_85 (fun r64 h65 hn => ?_)
    clear hm
    have hm := hn
    clear hn
    obtain ⟨a74, rfl, hm⟩ := hm
    obtain ⟨⟨fs67, e67⟩, hm⟩ := hm
    obtain ⟨mc68, ms69, kc70, ks71, kk67, kl67, hm⟩ := hm
    refine xr_cVl (n := 0) (As := []) (st := [.int 8, va_rf r53]) C (c_X7_seal a74 h65 mc68 ms69 hm) e67 rfl wd_339 wd_191 wd_192 wd_30 wd_190 (by decide +kernel) rfl (by rw [hR.1, hR.2]; decide) kk67 kl67 rfl (by simp [xv_cat, xv_ci, xv_cl, xv_cr, xv_cn]) dX3_takesRequest_88 (fun y72 h73 hn => ?_)
    clear hm
    have hm := hn
    clear hn
    obtain ⟨a76, rfl, hm⟩ := hm
    obtain ⟨N75, f75, e75, b75, h77, v75, hm⟩ := hm
    refine xr_last C 1 rfl e75 b75 v75 dX3_takesRequest_91 ?_
    refine xr_aload_n (r := (some a0)) C dX3_takesRequest_92 2 rfl ?_
    obtain ⟨fs78, r79, e78, f78, hm⟩ := hm
    refine xr_get (ci := 4) C 0 e78 f78 rfl inX3 (by decide) wd_290 dX3_takesRequest_93 ?_
    obtain ⟨a81, rfl, hm⟩ := hm
    obtain ⟨fs80, r82, e80, f80, hm⟩ := hm
    refine xr_get (ci := 11) C 7 e80 f80 rfl inX10 (by decide) wd_337 dX3_takesRequest_96 ?_
    obtain ⟨a84, rfl, hm⟩ := hm
    obtain ⟨fs83, r85, e83, f83, hm⟩ := hm
    refine xr_get (ci := 3) C 3 e83 f83 rfl inX2 (by decide) wd_298 dX3_takesRequest_99 ?_
    refine xr_bipush (v := 10) C dX3_takesRequest_102 rfl ?_
    refine xr_iload_n C dX3_takesRequest_104 0 rfl ?_
    refine xr_i2l (v := x17.toInt64) C dX3_takesRequest_105 rfl ?_
    obtain ⟨a87, rfl, hm⟩ := hm
    obtain ⟨N86, f86, e86, b86, h88, v86, hm⟩ := hm
    refine xr_last C 1 rfl e86 b86 v86 dX3_takesRequest_106 ?_
    refine xr_aload_n (r := (some a0)) C dX3_takesRequest_107 2 rfl ?_
    obtain ⟨fs89, r90, e89, f89, hm⟩ := hm
    refine xr_get (ci := 4) C 0 e89 f89 rfl inX3 (by decide) wd_290 dX3_takesRequest_108 ?_
    obtain ⟨a92, rfl, hm⟩ := hm
    obtain ⟨fs91, r93, e91, f91, hm⟩ := hm
    refine xr_get (ci := 11) C 7 e91 f91 rfl inX10 (by decide) wd_337 dX3_takesRequest_111 ?_
    obtain ⟨a95, rfl, hm⟩ := hm
    obtain ⟨fs94, r96, e94, f94, hm⟩ := hm
    refine xr_get (ci := 3) C 3 e94 f94 rfl inX2 (by decide) wd_298 dX3_takesRequest_114 ?_
    refine xr_bipush (v := 11) C dX3_takesRequest_117 rfl ?_
    refine xr_aload_n (r := (some a0)) C dX3_takesRequest_119 2 rfl ?_
    obtain ⟨fs97, r98, e97, f97, hm⟩ := hm
    refine xr_get (ci := 4) C 0 e97 f97 rfl inX3 (by decide) wd_290 dX3_takesRequest_120 ?_
    obtain ⟨a100, rfl, hm⟩ := hm
    obtain ⟨fs99, r101, e99, f99, hm⟩ := hm
    refine xr_get (ci := 11) C 1 e99 f99 rfl inX10 (by decide) wd_310 dX3_takesRequest_123 ?_
    refine xr_aload_n (r := (some a28)) C dX3_takesRequest_126 1 rfl ?_
    refine xr_iload_n C dX3_takesRequest_127 0 rfl ?_
    obtain ⟨a105, rfl, hm⟩ := hm
    obtain ⟨⟨fs102, e102⟩, hm⟩ := hm
    refine xr_cVq (n := 2) (As := [.ref a28, .int x17]) (st := [.int 11, va_rf r96]) C (c_X7_ofWordToTerminal a105 (some a28) x17 h88 0 0 hm) e102 rfl wd_340 wd_342 wd_343 wd_30 wd_341 (by decide +kernel) rfl (by rw [hR.1, hR.2]; decide) (Nat.zero_add _).symm (Nat.zero_add _).symm rfl (by simp [xv_cat, xv_ci, xv_cl, xv_cr, xv_cn]) dX3_takesRequest_128 (fun r103 h104 hn => ?_)
    clear hm
    have hm := hn
    clear hn
    obtain ⟨a113, rfl, hm⟩ := hm
    obtain ⟨⟨fs106, e106⟩, hm⟩ := hm
    obtain ⟨mc107, ms108, kc109, ks110, kk106, kl106, hm⟩ := hm
    refine xr_cVl (n := 0) (As := []) (st := [.int 11, va_rf r96]) C (c_X7_seal a113 h104 mc107 ms108 hm) e106 rfl wd_339 wd_191 wd_192 wd_30 wd_190 (by decide +kernel) rfl (by rw [hR.1, hR.2]; decide) kk106 kl106 rfl (by simp [xv_cat, xv_ci, xv_cl, xv_cr, xv_cn]) dX3_takesRequest_131 (fun y111 h112 hn => ?_)
    clear hm
    have hm := hn
    clear hn
    obtain ⟨a115, rfl, hm⟩ := hm
    obtain ⟨N114, f114, e114, b114, h116, v114, hm⟩ := hm
    refine xr_last C 1 rfl e114 b114 v114 dX3_takesRequest_134 ?_
    refine xr_aload_n (r := (some a0)) C dX3_takesRequest_135 2 rfl ?_
    obtain ⟨fs117, r118, e117, f117, hm⟩ := hm
    refine xr_get (ci := 4) C 0 e117 f117 rfl inX3 (by decide) wd_290 dX3_takesRequest_136 ?_
    refine xr_bipush (v := 8) C dX3_takesRequest_139 rfl ?_
    refine xr_iconst (v := 2) C dX3_takesRequest_141 rfl ?_
    refine xr_iconst (v := 0) C dX3_takesRequest_142 rfl ?_
    refine xr_iconst (v := 1) C dX3_takesRequest_143 rfl ?_
    refine xr_aload_n (r := (some a28)) C dX3_takesRequest_144 1 rfl ?_
    obtain ⟨fs119, x120, e119, f119, hm⟩ := hm
    refine xr_get (ci := 6) C 4 e119 f119 rfl inX5 (by decide) wd_301 dX3_takesRequest_145 ?_
    obtain ⟨a128, rfl, hm⟩ := hm
    obtain ⟨⟨fs121, e121⟩, hm⟩ := hm
    obtain ⟨mc122, ms123, kc124, ks125, kk121, kl121, hm⟩ := hm
    refine xr_cVi (n := 5) (As := [.int 8, .int 2, .int 0, .int 1, .int x120]) (st := []) C (c_X10_send a128 8 2 0 1 x120 h116 mc122 ms123 hm) e121 rfl wd_338 wd_176 wd_177 wd_178 wd_175 (by decide +kernel) rfl (by rw [hR.1, hR.2]; decide) kk121 kl121 rfl (Nat.le_of_ble_eq_true rfl) dX3_takesRequest_148 (fun x126 h127 hn => ?_)
    clear hm
    have hm := hn
    clear hn
    refine xr_pop C dX3_takesRequest_151 rfl ?_
    refine xr_iconst (v := 1) C dX3_takesRequest_152 rfl ?_
    exact xr_zreturn C hr hlk (Or.inr rfl) hm dX3_takesRequest_153
  · replace hm := hm.1 q11
    refine xr_iconst (v := 0) C dX3_takesRequest_15 rfl ?_
    exact xr_zreturn C hr hlk (Or.inl rfl) hm dX3_takesRequest_16
set_option maxRecDepth 100000 in
set_option maxHeartbeats 4000000 in
theorem k_X3_debitsOfCounter_L55 {p : Program} {l : Launch} {e : Env} {R : Room} {s : State} {m : MethodId} {args : Array Value} {below : List Frame} {meth : Method} {c : Code} {D : va_G} {E : Ev} {A : Nat → Prop} {KC KS : Nat} (C : XC p R s m args c D E A 5 RX3 cX3_debitsOfCounter KC KS) (hr : meth.sig.returnType = (some .int)) (hlk : meth.locks = false) (hnm : meth.name = "debitsOfCounter") (hR : R.frames = 3 ∧ R.locals = 64) {K4 : Nat → Option Nat → Int32 → Int32 → Hp → Nat → Nat → Prop} {Q : Int32 → Hp → Prop} (hK4 : ∀ (a0 : Nat) (rv1 : Option Nat) (xv2 : Int32) (xv3 : Int32) (h : Hp) (kc ks : Nat), K4 a0 rv1 xv2 xv3 h kc ks → XW p l e R s m args below meth c (MQ below (va_Qi Q (XPost D A) A) args s KC KS A) D A KC KS 5 h kc ks [(0, .ref a0), (1, va_rf rv1), (2, .int xv2), (3, .int xv3)] 4 []) : ∀ (a0 : Nat) (rv1 : Option Nat) (xv2 : Int32) (xv3 : Int32) (h : Hp) (kc ks : Nat), m_X3_debitsOfCounter_L55 E a0 rv1 xv2 xv3 h kc ks K4 Q → XW p l e R s m args below meth c (MQ below (va_Qi Q (XPost D A) A) args s KC KS A) D A KC KS 5 h kc ks [(0, .ref a0), (1, va_rf rv1), (2, .int xv2), (3, .int xv3)] 55 [] := by
  intro a0 rv1 xv2 xv3 h kc ks hm
  refine xr_iinc (j := 3) (v := xv3 + 1) (lv' := [(3, .int (xv3 + 1)), (0, .ref a0), (1, va_rf rv1), (2, .int xv2)]) C dX3_debitsOfCounter_55 rfl rfl (by decide) rfl ?_
  refine xr_goto (tgt := 4) C dX3_debitsOfCounter_58 (by decide) ?_
  refine xr_sub [1, 2, 3, 0] rfl ?_
  exact hK4 a0 rv1 xv2 (xv3 + 1) _ _ _ hm
set_option maxRecDepth 100000 in
set_option maxHeartbeats 4000000 in
theorem k_X3_debitsOfCounter_L4 {p : Program} {l : Launch} {e : Env} {R : Room} {s : State} {m : MethodId} {args : Array Value} {below : List Frame} {meth : Method} {c : Code} {D : va_G} {E : Ev} {A : Nat → Prop} {KC KS : Nat} (C : XC p R s m args c D E A 5 RX3 cX3_debitsOfCounter KC KS) (hr : meth.sig.returnType = (some .int)) (hlk : meth.locks = false) (hnm : meth.name = "debitsOfCounter") (hR : R.frames = 3 ∧ R.locals = 64) {Q : Int32 → Hp → Prop} : ∀ (n : Nat) (a0 : Nat) (rv1 : Option Nat) (xv2 : Int32) (xv3 : Int32) (h : Hp) (kc ks : Nat), m_X3_debitsOfCounter_L4 n E a0 rv1 xv2 xv3 h kc ks Q → XW p l e R s m args below meth c (MQ below (va_Qi Q (XPost D A) A) args s KC KS A) D A KC KS 5 h kc ks [(0, .ref a0), (1, va_rf rv1), (2, .int xv2), (3, .int xv3)] 4 [] := by
  intro n
  induction n with
  | zero => intro a0 rv1 xv2 xv3 h kc ks hm; exact False.elim hm
  | succ n ih =>
    intro a0 rv1 xv2 xv3 h kc ks hm
    refine xr_iload_n C dX3_debitsOfCounter_4 3 rfl ?_
    refine xr_aload_n (r := (some a0)) C dX3_debitsOfCounter_5 0 rfl ?_
    obtain ⟨fs2, r3, e2, f2, hm⟩ := hm
    refine xr_get (ci := 4) C 2 e2 f2 rfl inX3 (by decide) wd_289 dX3_debitsOfCounter_6 ?_
    obtain ⟨a7, rfl, hm⟩ := hm
    obtain ⟨⟨fs4, e4⟩, hm⟩ := hm
    refine xr_cVi (n := 0) (As := []) (st := [.int xv3]) C (c_Jx4a65c_size_8abf5 a7 h 0 0 hm) e4 rfl wd_322 wd_113 wd_114 wd_45 wd_112 (by decide +kernel) rfl (by rw [hR.1, hR.2]; decide) (Nat.zero_add _).symm (Nat.zero_add _).symm rfl (Nat.le_of_ble_eq_true rfl) dX3_debitsOfCounter_9 (fun x5 h6 hn => ?_)
    clear hm
    have hm := hn
    clear hn
    refine xr_icmp_ge (tgt := 61) C dX3_debitsOfCounter_12 (by decide) (fun q8 => ?_) (fun q8 => ?_)
    · replace hm := hm.1 q8
      refine xr_iload_n C dX3_debitsOfCounter_61 2 rfl ?_
      exact xr_ireturn C hr hlk hm dX3_debitsOfCounter_62
    · replace hm := hm.2 q8
      refine xr_aload_n (r := (some a0)) C dX3_debitsOfCounter_15 0 rfl ?_
      obtain ⟨fs9, r10, e9, f9, hm⟩ := hm
      refine xr_get (ci := 4) C 2 e9 f9 rfl inX3 (by decide) wd_289 dX3_debitsOfCounter_16 ?_
      refine xr_iload_n C dX3_debitsOfCounter_19 3 rfl ?_
      obtain ⟨a14, rfl, hm⟩ := hm
      obtain ⟨⟨fs11, e11⟩, hm⟩ := hm
      refine xr_cVq (n := 1) (As := [.int xv3]) (st := []) C (c_Jx4a65c_get_915e3 a14 xv3 h6 0 0 hm) e11 rfl wd_332 wd_134 wd_135 wd_45 wd_133 (by decide +kernel) rfl (by rw [hR.1, hR.2]; decide) (Nat.zero_add _).symm (Nat.zero_add _).symm rfl (Nat.le_of_ble_eq_true rfl) dX3_debitsOfCounter_20 (fun r12 h13 hn => ?_)
      clear hm
      have hm := hn
      clear hn
      obtain ⟨a16, rfl, hm⟩ := hm
      obtain ⟨⟨fs15, e15⟩, hm⟩ := hm
      refine xr_cast C e15 rfl wd_306 dX3_debitsOfCounter_23 ?_
      refine xr_astore (r := (some a16)) (lv' := [(4, .ref a16), (0, .ref a0), (1, va_rf rv1), (2, .int xv2), (3, .int xv3)]) C dX3_debitsOfCounter_26 (by decide) rfl ?_
      refine xr_aload (r := (some a16)) C dX3_debitsOfCounter_28 0 rfl ?_
      obtain ⟨fs17, x18, e17, f17, hm⟩ := hm
      refine xr_get (ci := 6) C 0 e17 f17 rfl inX5 (by decide) wd_296 dX3_debitsOfCounter_30 ?_
      refine xr_aload_n (r := rv1) C dX3_debitsOfCounter_33 2 rfl ?_
      obtain ⟨a20, rfl, hm⟩ := hm
      obtain ⟨fs19, x21, e19, f19, hm⟩ := hm
      refine xr_get (ci := 6) C 0 e19 f19 rfl inX5 (by decide) wd_296 dX3_debitsOfCounter_34 ?_
      refine xr_icmp_ne (tgt := 55) C dX3_debitsOfCounter_37 (by decide) (fun q22 => ?_) (fun q22 => ?_)
      · replace hm := hm.2 q22
        refine xr_sub [1, 2, 3, 4] rfl ?_
        exact k_X3_debitsOfCounter_L55 C hr hlk hnm hR ih a0 (some a20) xv2 xv3 _ _ _ hm
      · replace hm := hm.1 q22
        refine xr_aload (r := (some a16)) C dX3_debitsOfCounter_40 0 rfl ?_
        obtain ⟨fs23, x24, e23, f23, hm⟩ := hm
        refine xr_get (ci := 6) C 1 e23 f23 rfl inX5 (by decide) wd_297 dX3_debitsOfCounter_42 ?_
        refine xr_aload_n (r := (some a20)) C dX3_debitsOfCounter_45 2 rfl ?_
        obtain ⟨fs25, x26, e25, f25, hm⟩ := hm
        refine xr_get (ci := 6) C 1 e25 f25 rfl inX5 (by decide) wd_297 dX3_debitsOfCounter_46 ?_
        refine xr_icmp_ne (tgt := 55) C dX3_debitsOfCounter_49 (by decide) (fun q27 => ?_) (fun q27 => ?_)
        · replace hm := hm.2 q27
          refine xr_sub [1, 2, 3, 4] rfl ?_
          exact k_X3_debitsOfCounter_L55 C hr hlk hnm hR ih a0 (some a20) xv2 xv3 _ _ _ hm
        · replace hm := hm.1 q27
          refine xr_iinc (j := 3) (v := xv2 + 1) (lv' := [(2, .int (xv2 + 1)), (4, .ref a16), (0, .ref a0), (1, .ref a20), (3, .int xv3)]) C dX3_debitsOfCounter_52 rfl rfl (by decide) rfl ?_
          refine xr_sub [2, 3, 0, 4] rfl ?_
          exact k_X3_debitsOfCounter_L55 C hr hlk hnm hR ih a0 (some a20) (xv2 + 1) xv3 _ _ _ hm
set_option maxRecDepth 100000 in
set_option maxHeartbeats 4000000 in
theorem c_X3_debitsOfCounter {l : Launch} {D : va_G} {E : Ev} (a0 : Nat) (rp1 : Option Nat) (h : Hp) (kc ks : Nat) {Q : Int32 → Hp → Prop} (hm : m_X3_debitsOfCounter E a0 rp1 h kc ks Q) : XMet l yX3_debitsOfCounter cX3_debitsOfCounter 5 (some .int) 3 64 kc ks D E h [.ref a0, va_rf rp1] (fun A => va_Qi Q (XPost D A) A) := by
  refine xm_of (lv0 := [(0, .ref a0), (1, va_rf rp1)]) (by decide) (by simp [lg_sl, xv_cat, xv_ci, xv_cl, xv_cr, xv_cn]) (by simp [lv_args, xv_cat, xv_ci, xv_cl, xv_cr, xv_cn]) RX3 rfl (fun p e s m args below meth c A R hRm C hr hlk hnm => ?_)
  have hR : R.frames = 3 ∧ R.locals = 64 := by rw [hRm]; exact ⟨rfl, rfl⟩
  refine xr_iconst (v := 0) C dX3_debitsOfCounter_0 rfl ?_
  refine xr_istore_n (lv' := [(2, .int 0), (0, .ref a0), (1, va_rf rp1)]) C dX3_debitsOfCounter_1 (by decide) (by simp [xv_put1, xv_cat, xv_ci, xv_cl, xv_cr, xv_cn] <;> decide) ?_
  refine xr_iconst (v := 0) C dX3_debitsOfCounter_2 rfl ?_
  refine xr_istore_n (lv' := [(3, .int 0), (2, .int 0), (0, .ref a0), (1, va_rf rp1)]) C dX3_debitsOfCounter_3 (by decide) rfl ?_
  obtain ⟨n1, hm⟩ := hm
  refine xr_sub [2, 3, 1, 0] rfl ?_
  exact k_X3_debitsOfCounter_L4 C hr hlk hnm hR n1 a0 rp1 0 0 _ _ _ hm
set_option maxRecDepth 100000 in
set_option maxHeartbeats 4000000 in
theorem c_X3_takesClear {l : Launch} {D : va_G} {E : Ev} (a0 : Nat) (rp1 : Option Nat) (h : Hp) (kc ks : Nat) {Q : Int32 → Hp → Prop} (hm : m_X3_takesClear E a0 rp1 h kc ks Q) : XMet l yX3_takesClear cX3_takesClear 3 (some .boolean) 8 213 kc ks D E h [.ref a0, va_rf rp1] (fun A => va_Qi Q (XPost D A) A) := by
  refine xm_of (lv0 := [(0, .ref a0), (1, va_rf rp1)]) (by decide) (by simp [lg_sl, xv_cat, xv_ci, xv_cl, xv_cr, xv_cn]) (by simp [lv_args, xv_cat, xv_ci, xv_cl, xv_cr, xv_cn]) RX3 rfl (fun p e s m args below meth c A R hRm C hr hlk hnm => ?_)
  have hR : R.frames = 8 ∧ R.locals = 213 := by rw [hRm]; exact ⟨rfl, rfl⟩
  refine xr_aload_n (r := rp1) C dX3_takesClear_0 1 rfl ?_
  refine xr_iconst (v := 2) C dX3_takesClear_1 rfl ?_
  obtain ⟨mc2, ms3, kc4, ks5, kk1, kl1, hm⟩ := hm
  refine xr_cSq (n := 2) (As := [va_rf rp1, .int 2]) (st := []) C (c_X3_paymentOf rp1 2 h mc2 ms3 hm) wd_353 wd_355 wd_330 wd_354 (by decide +kernel) rfl (by rw [hR.1, hR.2]; decide) kk1 kl1 rfl (Nat.le_of_ble_eq_true rfl) dX3_takesClear_2 (fun r6 h7 hn => ?_)
  clear hm
  have hm := hn
  clear hn
  refine xr_astore_n (r := r6) (lv' := [(2, va_rf r6), (0, .ref a0), (1, va_rf rp1)]) C dX3_takesClear_5 (by decide) (by simp [xv_put1, xv_cat, xv_ci, xv_cl, xv_cr, xv_cn] <;> decide) ?_
  refine xr_aload_n (r := (some a0)) C dX3_takesClear_6 1 rfl ?_
  refine xr_aload_n (r := rp1) C dX3_takesClear_7 2 rfl ?_
  refine xr_aload_n (r := r6) C dX3_takesClear_8 0 rfl ?_
  obtain ⟨⟨fs8, e8⟩, hm⟩ := hm
  refine xr_cVi (n := 2) (As := [va_rf rp1, va_rf r6]) (st := []) C (c_X3_isFromTerminal a0 rp1 r6 h7 0 0 hm) e8 rfl wd_349 wd_351 wd_352 wd_330 wd_350 (by decide +kernel) rfl (by rw [hR.1, hR.2]; decide) (Nat.zero_add _).symm (Nat.zero_add _).symm rfl (Nat.le_of_ble_eq_true rfl) dX3_takesClear_9 (fun x9 h10 hn => ?_)
  clear hm
  have hm := hn
  clear hn
  refine xr_if_eq (tgt := 31) C dX3_takesClear_12 (by decide) (fun q11 => ?_) (fun q11 => ?_)
  · replace hm := hm.1 q11
    refine xr_iconst (v := 0) C dX3_takesClear_31 rfl ?_
    exact xr_zreturn C hr hlk (Or.inl rfl) hm dX3_takesClear_32
  · replace hm := hm.2 q11
    refine xr_aload_n (r := (some a0)) C dX3_takesClear_15 1 rfl ?_
    refine xr_aload_n (r := r6) C dX3_takesClear_16 0 rfl ?_
    obtain ⟨⟨fs12, e12⟩, hm⟩ := hm
    refine xr_cVi (n := 1) (As := [va_rf r6]) (st := []) C (c_X3_isAnswerOfCard a0 r6 h10 0 0 hm) e12 rfl wd_333 wd_335 wd_336 wd_330 wd_334 (by decide +kernel) rfl (by rw [hR.1, hR.2]; decide) (Nat.zero_add _).symm (Nat.zero_add _).symm rfl (Nat.le_of_ble_eq_true rfl) dX3_takesClear_17 (fun x13 h14 hn => ?_)
    clear hm
    have hm := hn
    clear hn
    refine xr_if_eq (tgt := 31) C dX3_takesClear_20 (by decide) (fun q15 => ?_) (fun q15 => ?_)
    · replace hm := hm.1 q15
      refine xr_iconst (v := 0) C dX3_takesClear_31 rfl ?_
      exact xr_zreturn C hr hlk (Or.inl rfl) hm dX3_takesClear_32
    · replace hm := hm.2 q15
      refine xr_aload_n (r := (some a0)) C dX3_takesClear_23 1 rfl ?_
      refine xr_aload_n (r := r6) C dX3_takesClear_24 0 rfl ?_
      obtain ⟨⟨fs16, e16⟩, hm⟩ := hm
      refine xr_cVi (n := 1) (As := [va_rf r6]) (st := []) C (c_X3_debitsOfCounter a0 r6 h14 0 0 hm) e16 rfl wd_356 wd_358 wd_359 wd_330 wd_357 (by decide +kernel) rfl (by rw [hR.1, hR.2]; decide) (Nat.zero_add _).symm (Nat.zero_add _).symm rfl (Nat.le_of_ble_eq_true rfl) dX3_takesClear_25 (fun x17 h18 hn => ?_)
      clear hm
      have hm := hn
      clear hn
      refine xr_if_le (tgt := 33) C dX3_takesClear_28 (by decide) (fun q19 => ?_) (fun q19 => ?_)
      · replace hm := hm.1 q19
        refine xr_aload_n (r := (some a0)) C dX3_takesClear_33 1 rfl ?_
        refine xr_aload_n (r := (some a0)) C dX3_takesClear_34 1 rfl ?_
        obtain ⟨fs20, r21, e20, f20, hm⟩ := hm
        refine xr_get (ci := 4) C 1 e20 f20 rfl inX3 (by decide) wd_288 dX3_takesClear_35 ?_
        refine xr_aload_n (r := r6) C dX3_takesClear_38 0 rfl ?_
        obtain ⟨a23, rfl, hm⟩ := hm
        obtain ⟨fs22, x24, e22, f22, hm⟩ := hm
        refine xr_get (ci := 6) C 0 e22 f22 rfl inX5 (by decide) wd_296 dX3_takesClear_39 ?_
        obtain ⟨a28, rfl, hm⟩ := hm
        obtain ⟨⟨fs25, e25⟩, hm⟩ := hm
        refine xr_cVq (n := 1) (As := [.int x24]) (st := [.ref a0]) C (c_Jx4a65c_get_915e3 a28 x24 h18 0 0 hm) e25 rfl wd_332 wd_134 wd_135 wd_45 wd_133 (by decide +kernel) rfl (by rw [hR.1, hR.2]; decide) (Nat.zero_add _).symm (Nat.zero_add _).symm rfl (Nat.le_of_ble_eq_true rfl) dX3_takesClear_42 (fun r26 h27 hn => ?_)
        clear hm
        have hm := hn
        clear hn
        obtain ⟨a30, rfl, hm⟩ := hm
        obtain ⟨⟨fs29, e29⟩, hm⟩ := hm
        refine xr_cast C e29 rfl wd_331 dX3_takesClear_45 ?_
        refine xr_aload_n (r := (some a23)) C dX3_takesClear_48 0 rfl ?_
        obtain ⟨⟨fs31, e31⟩, hm⟩ := hm
        obtain ⟨mc32, ms33, kc34, ks35, kk31, kl31, hm⟩ := hm
        refine xr_cVv (n := 2) (As := [.ref a30, .ref a23]) (st := []) C (c_X3_take a0 (some a30) (some a23) h27 mc32 ms33 hm) e31 rfl wd_326 wd_328 wd_329 wd_330 wd_327 (by decide +kernel) rfl (by rw [hR.1, hR.2]; decide) kk31 kl31 rfl (Nat.le_of_ble_eq_true rfl) dX3_takesClear_49 (fun h37 hn => ?_)
        clear hm
        have hm := hn
        clear hn
        refine xr_iconst (v := 1) C dX3_takesClear_52 rfl ?_
        exact xr_zreturn C hr hlk (Or.inr rfl) hm dX3_takesClear_53
      · replace hm := hm.2 q19
        refine xr_iconst (v := 0) C dX3_takesClear_31 rfl ?_
        exact xr_zreturn C hr hlk (Or.inl rfl) hm dX3_takesClear_32
set_option maxRecDepth 100000 in
set_option maxHeartbeats 4000000 in
theorem c_X3_takes {l : Launch} {D : va_G} {E : Ev} (a0 : Nat) (rp1 : Option Nat) (h : Hp) (kc ks : Nat) {Q : Int32 → Hp → Prop} (hm : m_X3_takes E a0 rp1 h kc ks Q) : XMet l yX3_takes cX3_takes 2 (some .boolean) 10 258 kc ks D E h [.ref a0, va_rf rp1] (fun A => va_Qi Q (XPost D A) A) := by
  refine xm_of (lv0 := [(0, .ref a0), (1, va_rf rp1)]) (by decide) (by simp [lg_sl, xv_cat, xv_ci, xv_cl, xv_cr, xv_cn]) (by simp [lv_args, xv_cat, xv_ci, xv_cl, xv_cr, xv_cn]) RX3 rfl (fun p e s m args below meth c A R hRm C hr hlk hnm => ?_)
  have hR : R.frames = 10 ∧ R.locals = 258 := by rw [hRm]; exact ⟨rfl, rfl⟩
  refine xr_aload_n (r := rp1) C dX3_takes_0 1 rfl ?_
  obtain ⟨a2, rfl, hm⟩ := hm
  obtain ⟨fs1, x3, e1, f1, hm⟩ := hm
  refine xr_get (ci := 3) C 0 e1 f1 rfl inX2 (by decide) wd_311 dX3_takes_1 ?_
  by_cases q_0 : x3 = 7
  · replace hm := hm.1 q_0
    refine xr_lookup (tgt := 32) C dX3_takes_4 (by decide) (by rw [q_0] <;> rfl) (by decide) ?_
    refine xr_aload_n (r := (some a0)) C dX3_takes_32 0 rfl ?_
    refine xr_aload_n (r := (some a2)) C dX3_takes_33 1 rfl ?_
    obtain ⟨⟨fs4, e4⟩, hm⟩ := hm
    obtain ⟨mc5, ms6, kc7, ks8, kk4, kl4, hm⟩ := hm
    refine xr_cVi (n := 1) (As := [.ref a2]) (st := []) C (c_X3_takesRequest a0 (some a2) h mc5 ms6 hm) e4 rfl wd_360 wd_362 wd_363 wd_330 wd_361 (by decide +kernel) rfl (by rw [hR.1, hR.2]; decide) kk4 kl4 rfl (Nat.le_of_ble_eq_true rfl) dX3_takes_34 (fun x9 h10 hn => ?_)
    clear hm
    have hm := hn
    clear hn
    exact xr_zreturn C hr hlk hm.1 hm.2 dX3_takes_37
  · replace hm := hm.2 q_0
    by_cases q_1 : x3 = 11
    · replace hm := hm.1 q_1
      refine xr_lookup (tgt := 38) C dX3_takes_4 (by decide) (by rw [q_1] <;> rfl) (by decide) ?_
      refine xr_aload_n (r := (some a0)) C dX3_takes_38 0 rfl ?_
      refine xr_aload_n (r := (some a2)) C dX3_takes_39 1 rfl ?_
      obtain ⟨⟨fs11, e11⟩, hm⟩ := hm
      obtain ⟨mc12, ms13, kc14, ks15, kk11, kl11, hm⟩ := hm
      refine xr_cVi (n := 1) (As := [.ref a2]) (st := []) C (c_X3_takesClear a0 (some a2) h mc12 ms13 hm) e11 rfl wd_364 wd_366 wd_367 wd_330 wd_365 (by decide +kernel) rfl (by rw [hR.1, hR.2]; decide) kk11 kl11 rfl (Nat.le_of_ble_eq_true rfl) dX3_takes_40 (fun x16 h17 hn => ?_)
      clear hm
      have hm := hn
      clear hn
      exact xr_zreturn C hr hlk hm.1 hm.2 dX3_takes_43
    · replace hm := hm.2 q_1
      refine xr_lookup (tgt := 44) (off := 40) C dX3_takes_4 (by decide) ((lv_osw q_0 rfl).trans ((lv_osw q_1 rfl).trans (rfl))) (by decide) ?_
      refine xr_iconst (v := 0) C dX3_takes_44 rfl ?_
      exact xr_zreturn C hr hlk (Or.inl rfl) hm dX3_takes_45
set_option maxRecDepth 100000 in
set_option maxHeartbeats 4000000 in
theorem c_X4_has {l : Launch} {D : va_G} {E : Ev} (a0 : Nat) (xp1 : Int32) (h : Hp) (kc ks : Nat) {Q : Int32 → Hp → Prop} (hm : m_X4_has E a0 xp1 h kc ks Q) : XMet l yX4_has cX4_has 2 (some .boolean) 0 0 kc ks D E h [.ref a0, .int xp1] (fun A => va_Qi Q (XPost D A) A) := by
  refine xm_of (lv0 := [(0, .ref a0), (1, .int xp1)]) (by decide) (Nat.le_of_ble_eq_true rfl) rfl RX4 rfl (fun p e s m args below meth c A R hRm C hr hlk hnm => ?_)
  have hR : R.frames = 0 ∧ R.locals = 0 := by rw [hRm]; exact ⟨rfl, rfl⟩
  refine xr_iload_n C dX4_has_0 1 rfl ?_
  refine xr_if_lt (tgt := 16) C dX4_has_1 (by decide) (fun q1 => ?_) (fun q1 => ?_)
  · replace hm := hm.1 q1
    refine xr_iconst (v := 0) C dX4_has_16 rfl ?_
    exact xr_zreturn C hr hlk (Or.inl rfl) hm dX4_has_17
  · replace hm := hm.2 q1
    refine xr_iload_n C dX4_has_4 1 rfl ?_
    refine xr_aload_n (r := (some a0)) C dX4_has_5 0 rfl ?_
    obtain ⟨fs2, x3, e2, f2, hm⟩ := hm
    refine xr_get (ci := 5) C 4 e2 f2 rfl inX4 (by decide) wd_150 dX4_has_6 ?_
    refine xr_icmp_ge (tgt := 16) C dX4_has_9 (by decide) (fun q4 => ?_) (fun q4 => ?_)
    · replace hm := hm.1 q4
      refine xr_iconst (v := 0) C dX4_has_16 rfl ?_
      exact xr_zreturn C hr hlk (Or.inl rfl) hm dX4_has_17
    · replace hm := hm.2 q4
      refine xr_iconst (v := 1) C dX4_has_12 rfl ?_
      refine xr_goto (tgt := 17) C dX4_has_13 (by decide) ?_
      exact xr_zreturn C hr hlk (Or.inr rfl) hm dX4_has_17
set_option maxRecDepth 100000 in
set_option maxHeartbeats 4000000 in
theorem c_X4_copyBytes {l : Launch} {D : va_G} {E : Ev} (a0 : Nat) (rp1 : Option Nat) (xp2 : Int32) (h : Hp) (kc ks : Nat) {Q : Hp → Prop} (hm : m_X4_copyBytes E a0 rp1 xp2 h kc ks Q) : XMet l yX4_copyBytes cX4_copyBytes 3 none 1 60 kc ks D E h [.ref a0, va_rf rp1, .int xp2] (fun A => va_Qv Q (XPost D A) A) := by
  refine xm_of (lv0 := [(0, .ref a0), (1, va_rf rp1), (2, .int xp2)]) (by decide) (by simp [lg_sl, xv_cat, xv_ci, xv_cl, xv_cr, xv_cn]) (by simp [lv_args, xv_cat, xv_ci, xv_cl, xv_cr, xv_cn]) RX4 rfl (fun p e s m args below meth c A R hRm C hr hlk hnm => ?_)
  have hR : R.frames = 1 ∧ R.locals = 60 := by rw [hRm]; exact ⟨rfl, rfl⟩
  refine xr_aload_n (r := (some a0)) C dX4_copyBytes_0 0 rfl ?_
  refine xr_iload_n C dX4_copyBytes_1 2 rfl ?_
  refine xr_bipush (v := 64) C dX4_copyBytes_2 rfl ?_
  refine xr_mmin C wd_369 wd_59 wd_60 wd_57 (by rw [hR.1]; decide) (by rw [hR.2]; exact Nat.le_of_ble_eq_true rfl) dX4_copyBytes_4 (fun x2 e3 => ?_)
  replace hm := hm x2 e3
  obtain ⟨fs4, e4, f4, h5, eh4, hm⟩ := hm
  refine xr_put (ci := 5) (v := .int x2) C 4 .int tyX4 tyX4_ok nmX4 e4 f4 rfl inX4 (by decide) wd_150 rfl (by decide) rfl rfl eh4 dX4_copyBytes_7 ?_
  refine xr_aload_n (r := rp1) C dX4_copyBytes_10 1 rfl ?_
  refine xr_iconst (v := 0) C dX4_copyBytes_11 rfl ?_
  refine xr_aload_n (r := (some a0)) C dX4_copyBytes_12 0 rfl ?_
  obtain ⟨fs6, r7, e6, f6, hm⟩ := hm
  refine xr_get (ci := 5) C 5 e6 f6 rfl inX4 (by decide) wd_137 dX4_copyBytes_13 ?_
  refine xr_iconst (v := 0) C dX4_copyBytes_16 rfl ?_
  refine xr_aload_n (r := (some a0)) C dX4_copyBytes_17 0 rfl ?_
  obtain ⟨fs8, x9, e8, f8, hm⟩ := hm
  refine xr_get (ci := 5) C 4 e8 f8 rfl inX4 (by decide) wd_150 dX4_copyBytes_18 ?_
  obtain ⟨a11, rfl, hm⟩ := hm
  obtain ⟨a12, rfl, hm⟩ := hm
  refine xr_cpI C 0 rfl wd_368 wd_54 wd_55 wd_56 hm (by rw [hR.1]; decide) (by rw [hR.2]; exact Nat.le_of_ble_eq_true rfl) dX4_copyBytes_21 (fun h13 hn => ?_)
  clear hm
  have hm := hn
  clear hn
  exact xr_vreturn C hr hlk hm dX4_copyBytes_24
set_option maxRecDepth 100000 in
set_option maxHeartbeats 4000000 in
theorem c_X4_isFieldAt {l : Launch} {D : va_G} {E : Ev} (a0 : Nat) (xp1 : Int32) (xp2 : Int32) (h : Hp) (kc ks : Nat) {Q : Int32 → Hp → Prop} (hm : m_X4_isFieldAt E a0 xp1 xp2 h kc ks Q) : XMet l yX4_isFieldAt cX4_isFieldAt 3 (some .boolean) 0 0 kc ks D E h [.ref a0, .int xp1, .int xp2] (fun A => va_Qi Q (XPost D A) A) := by
  refine xm_of (lv0 := [(0, .ref a0), (1, .int xp1), (2, .int xp2)]) (by decide) (Nat.le_of_ble_eq_true rfl) rfl RX4 rfl (fun p e s m args below meth c A R hRm C hr hlk hnm => ?_)
  have hR : R.frames = 0 ∧ R.locals = 0 := by rw [hRm]; exact ⟨rfl, rfl⟩
  refine xr_iload_n C dX4_isFieldAt_0 1 rfl ?_
  refine xr_iconst (v := 2) C dX4_isFieldAt_1 rfl ?_
  refine xr_iadd C dX4_isFieldAt_2 ?_
  refine xr_getsN (host := "CardPayments") C 1 rfl wn_5 dX4_isFieldAt_3 ?_
  refine xr_iload_n C dX4_isFieldAt_6 2 rfl ?_
  obtain ⟨N2, f2, x3, e2, b2, v2, hm⟩ := hm
  refine xr_roi C 1 e2 b2 v2 dX4_isFieldAt_7 ?_
  refine xr_iadd C dX4_isFieldAt_8 ?_
  refine xr_aload_n (r := (some a0)) C dX4_isFieldAt_9 0 rfl ?_
  obtain ⟨fs4, x5, e4, f4, hm⟩ := hm
  refine xr_get (ci := 5) C 4 e4 f4 rfl inX4 (by decide) wd_150 dX4_isFieldAt_10 ?_
  refine xr_icmp_gt (tgt := 46) C dX4_isFieldAt_13 (by decide) (fun q6 => ?_) (fun q6 => ?_)
  · replace hm := hm.1 q6
    refine xr_iconst (v := 0) C dX4_isFieldAt_46 rfl ?_
    exact xr_zreturn C hr hlk (Or.inl rfl) hm dX4_isFieldAt_47
  · replace hm := hm.2 q6
    refine xr_aload_n (r := (some a0)) C dX4_isFieldAt_16 0 rfl ?_
    obtain ⟨fs7, r8, e7, f7, hm⟩ := hm
    refine xr_get (ci := 5) C 5 e7 f7 rfl inX4 (by decide) wd_137 dX4_isFieldAt_17 ?_
    refine xr_iload_n C dX4_isFieldAt_20 1 rfl ?_
    obtain ⟨a10, rfl, hm⟩ := hm
    obtain ⟨N9, f9, x11, e9, b9, v9, hm⟩ := hm
    refine xr_iald C 0 rfl e9 b9 v9 dX4_isFieldAt_21 ?_
    refine xr_iload_n C dX4_isFieldAt_22 2 rfl ?_
    refine xr_icmp_ne (tgt := 46) C dX4_isFieldAt_23 (by decide) (fun q12 => ?_) (fun q12 => ?_)
    · replace hm := hm.2 q12
      refine xr_iconst (v := 0) C dX4_isFieldAt_46 rfl ?_
      exact xr_zreturn C hr hlk (Or.inl rfl) hm dX4_isFieldAt_47
    · replace hm := hm.1 q12
      refine xr_aload_n (r := (some a0)) C dX4_isFieldAt_26 0 rfl ?_
      obtain ⟨fs13, r14, e13, f13, hm⟩ := hm
      refine xr_get (ci := 5) C 5 e13 f13 rfl inX4 (by decide) wd_137 dX4_isFieldAt_27 ?_
      refine xr_iload_n C dX4_isFieldAt_30 1 rfl ?_
      refine xr_iconst (v := 1) C dX4_isFieldAt_31 rfl ?_
      refine xr_iadd C dX4_isFieldAt_32 ?_
      obtain ⟨a16, rfl, hm⟩ := hm
      obtain ⟨N15, f15, x17, e15, b15, v15, hm⟩ := hm
      refine xr_iald C 0 rfl e15 b15 v15 dX4_isFieldAt_33 ?_
      refine xr_getsN (host := "CardPayments") C 1 rfl wn_5 dX4_isFieldAt_34 ?_
      refine xr_iload_n C dX4_isFieldAt_37 2 rfl ?_
      obtain ⟨N19, f19, x20, e19, b19, v19, hm⟩ := hm
      refine xr_roi C 1 e19 b19 v19 dX4_isFieldAt_38 ?_
      refine xr_icmp_ne (tgt := 46) C dX4_isFieldAt_39 (by decide) (fun q21 => ?_) (fun q21 => ?_)
      · replace hm := hm.2 q21
        refine xr_iconst (v := 0) C dX4_isFieldAt_46 rfl ?_
        exact xr_zreturn C hr hlk (Or.inl rfl) hm dX4_isFieldAt_47
      · replace hm := hm.1 q21
        refine xr_iconst (v := 1) C dX4_isFieldAt_42 rfl ?_
        refine xr_goto (tgt := 47) C dX4_isFieldAt_43 (by decide) ?_
        exact xr_zreturn C hr hlk (Or.inr rfl) hm dX4_isFieldAt_47
set_option maxRecDepth 100000 in
set_option maxHeartbeats 4000000 in
theorem k_X4_numberAt_L5 {p : Program} {l : Launch} {e : Env} {R : Room} {s : State} {m : MethodId} {args : Array Value} {below : List Frame} {meth : Method} {c : Code} {D : va_G} {E : Ev} {A : Nat → Prop} {KC KS : Nat} (C : XC p R s m args c D E A 6 RX4 cX4_numberAt KC KS) (hr : meth.sig.returnType = (some .long)) (hlk : meth.locks = false) (hnm : meth.name = "numberAt") (hR : R.frames = 0 ∧ R.locals = 0) {Q : Int64 → Hp → Prop} : ∀ (n : Nat) (a0 : Nat) (xv1 : Int32) (xv2 : Int32) (yv3 : Int64) (xv5 : Int32) (h : Hp) (kc ks : Nat), m_X4_numberAt_L5 n E a0 xv1 xv2 yv3 xv5 h kc ks Q → XW p l e R s m args below meth c (MQ below (va_Ql Q (XPost D A) A) args s KC KS A) D A KC KS 6 h kc ks [(0, .ref a0), (1, .int xv1), (2, .int xv2), (3, .long yv3), (5, .int xv5)] 5 [] := by
  intro n
  induction n with
  | zero => intro a0 xv1 xv2 yv3 xv5 h kc ks hm; exact False.elim hm
  | succ n ih =>
    intro a0 xv1 xv2 yv3 xv5 h kc ks hm
    refine xr_iload C dX4_numberAt_5 4 rfl ?_
    refine xr_iload_n C dX4_numberAt_7 2 rfl ?_
    refine xr_icmp_ge (tgt := 34) C dX4_numberAt_8 (by decide) (fun q2 => ?_) (fun q2 => ?_)
    · replace hm := hm.1 q2
      refine xr_lload_n C dX4_numberAt_34 3 rfl ?_
      exact xr_lreturn C hr hlk hm dX4_numberAt_35
    · replace hm := hm.2 q2
      refine xr_lload_n C dX4_numberAt_11 3 rfl ?_
      refine xr_ldc2 (v := 256) C dX4_numberAt_12 wd_370 ?_
      refine xr_lmul C dX4_numberAt_15 ?_
      refine xr_aload_n (r := (some a0)) C dX4_numberAt_16 0 rfl ?_
      obtain ⟨fs3, r4, e3, f3, hm⟩ := hm
      refine xr_get (ci := 5) C 5 e3 f3 rfl inX4 (by decide) wd_137 dX4_numberAt_17 ?_
      refine xr_iload_n C dX4_numberAt_20 1 rfl ?_
      refine xr_iload C dX4_numberAt_21 4 rfl ?_
      refine xr_iadd C dX4_numberAt_23 ?_
      obtain ⟨a6, rfl, hm⟩ := hm
      obtain ⟨N5, f5, x7, e5, b5, v5, hm⟩ := hm
      refine xr_iald C 0 rfl e5 b5 v5 dX4_numberAt_24 ?_
      refine xr_i2l (v := x7.toInt64) C dX4_numberAt_25 rfl ?_
      refine xr_ladd C dX4_numberAt_26 ?_
      refine xr_lstore_n (lv' := [(3, .long ((yv3 * 256) + x7.toInt64)), (0, .ref a0), (1, .int xv1), (2, .int xv2), (5, .int xv5)]) C dX4_numberAt_27 (by decide) rfl ?_
      refine xr_iinc (j := 4) (v := xv5 + 1) (lv' := [(5, .int (xv5 + 1)), (3, .long ((yv3 * 256) + x7.toInt64)), (0, .ref a0), (1, .int xv1), (2, .int xv2)]) C dX4_numberAt_28 rfl rfl (by decide) rfl ?_
      refine xr_goto (tgt := 5) C dX4_numberAt_31 (by decide) ?_
      refine xr_sub [2, 3, 4, 1, 0] rfl ?_
      exact ih a0 xv1 xv2 ((yv3 * 256) + x7.toInt64) (xv5 + 1) _ _ _ hm
set_option maxRecDepth 100000 in
set_option maxHeartbeats 4000000 in
theorem c_X4_numberAt {l : Launch} {D : va_G} {E : Ev} (a0 : Nat) (xp1 : Int32) (xp2 : Int32) (h : Hp) (kc ks : Nat) {Q : Int64 → Hp → Prop} (hm : m_X4_numberAt E a0 xp1 xp2 h kc ks Q) : XMet l yX4_numberAt cX4_numberAt 6 (some .long) 0 0 kc ks D E h [.ref a0, .int xp1, .int xp2] (fun A => va_Ql Q (XPost D A) A) := by
  refine xm_of (lv0 := [(0, .ref a0), (1, .int xp1), (2, .int xp2)]) (by decide) (Nat.le_of_ble_eq_true rfl) rfl RX4 rfl (fun p e s m args below meth c A R hRm C hr hlk hnm => ?_)
  have hR : R.frames = 0 ∧ R.locals = 0 := by rw [hRm]; exact ⟨rfl, rfl⟩
  refine xr_lconst (v := 0) C dX4_numberAt_0 rfl ?_
  refine xr_lstore_n (lv' := [(3, .long 0), (0, .ref a0), (1, .int xp1), (2, .int xp2)]) C dX4_numberAt_1 (by decide) rfl ?_
  refine xr_iconst (v := 0) C dX4_numberAt_2 rfl ?_
  refine xr_istore (lv' := [(5, .int 0), (3, .long 0), (0, .ref a0), (1, .int xp1), (2, .int xp2)]) C dX4_numberAt_3 (by decide) rfl ?_
  obtain ⟨n1, hm⟩ := hm
  refine xr_sub [2, 3, 4, 1, 0] rfl ?_
  exact k_X4_numberAt_L5 C hr hlk hnm hR n1 a0 xp1 xp2 0 0 _ _ _ hm
set_option maxRecDepth 100000 in
set_option maxHeartbeats 4000000 in
theorem k_X4_read_L116 {p : Program} {l : Launch} {e : Env} {R : Room} {s : State} {m : MethodId} {args : Array Value} {below : List Frame} {meth : Method} {c : Code} {D : va_G} {E : Ev} {A : Nat → Prop} {KC KS : Nat} (C : XC p R s m args c D E A 4 RX4 cX4_read KC KS) (hr : meth.sig.returnType = (some .boolean)) (hlk : meth.locks = false) (hnm : meth.name = "read") (hR : R.frames = 1 ∧ R.locals = 25) {K60 : Nat → Option Nat → Int32 → Int32 → Hp → Nat → Nat → Prop} {Q : Int32 → Hp → Prop} (hK60 : ∀ (a0 : Nat) (rv1 : Option Nat) (xv2 : Int32) (xv3 : Int32) (h : Hp) (kc ks : Nat), K60 a0 rv1 xv2 xv3 h kc ks → XW p l e R s m args below meth c (MQ below (va_Qi Q (XPost D A) A) args s KC KS A) D A KC KS 4 h kc ks [(0, .ref a0), (1, va_rf rv1), (2, .int xv2), (3, .int xv3)] 60 []) : ∀ (a0 : Nat) (rv1 : Option Nat) (xv2 : Int32) (xv3 : Int32) (h : Hp) (kc ks : Nat), m_X4_read_L116 E a0 rv1 xv2 xv3 h kc ks K60 Q → XW p l e R s m args below meth c (MQ below (va_Qi Q (XPost D A) A) args s KC KS A) D A KC KS 4 h kc ks [(0, .ref a0), (1, va_rf rv1), (2, .int xv2), (3, .int xv3)] 116 [] := by
  intro a0 rv1 xv2 xv3 h kc ks hm
  refine xr_iinc (j := 3) (v := xv3 + 1) (lv' := [(3, .int (xv3 + 1)), (0, .ref a0), (1, va_rf rv1), (2, .int xv2)]) C dX4_read_116 rfl rfl (by decide) rfl ?_
  refine xr_goto (tgt := 60) C dX4_read_119 (by decide) ?_
  refine xr_sub [1, 2, 3, 0] rfl ?_
  exact hK60 a0 rv1 xv2 (xv3 + 1) _ _ _ hm
set_option maxRecDepth 100000 in
set_option maxHeartbeats 4000000 in
theorem k_X4_read_L60 {p : Program} {l : Launch} {e : Env} {R : Room} {s : State} {m : MethodId} {args : Array Value} {below : List Frame} {meth : Method} {c : Code} {D : va_G} {E : Ev} {A : Nat → Prop} {KC KS : Nat} (C : XC p R s m args c D E A 4 RX4 cX4_read KC KS) (hr : meth.sig.returnType = (some .boolean)) (hlk : meth.locks = false) (hnm : meth.name = "read") (hR : R.frames = 1 ∧ R.locals = 25) {Q : Int32 → Hp → Prop} : ∀ (n : Nat) (a0 : Nat) (rv1 : Option Nat) (xv2 : Int32) (xv3 : Int32) (h : Hp) (kc ks : Nat), m_X4_read_L60 n E a0 rv1 xv2 xv3 h kc ks Q → XW p l e R s m args below meth c (MQ below (va_Qi Q (XPost D A) A) args s KC KS A) D A KC KS 4 h kc ks [(0, .ref a0), (1, va_rf rv1), (2, .int xv2), (3, .int xv3)] 60 [] := by
  intro n
  induction n with
  | zero => intro a0 rv1 xv2 xv3 h kc ks hm; exact False.elim hm
  | succ n ih =>
    intro a0 rv1 xv2 xv3 h kc ks hm
    refine xr_iload_n C dX4_read_60 3 rfl ?_
    refine xr_bipush (v := 12) C dX4_read_61 rfl ?_
    refine xr_icmp_ge (tgt := 122) C dX4_read_63 (by decide) (fun q33 => ?_) (fun q33 => ?_)
    · replace hm := hm.1 q33
      refine xr_iload_n C dX4_read_122 2 rfl ?_
      refine xr_aload_n (r := (some a0)) C dX4_read_123 0 rfl ?_
      obtain ⟨fs34, x35, e34, f34, hm⟩ := hm
      refine xr_get (ci := 5) C 4 e34 f34 rfl inX4 (by decide) wd_150 dX4_read_124 ?_
      refine xr_icmp_ne (tgt := 134) C dX4_read_127 (by decide) (fun q36 => ?_) (fun q36 => ?_)
      · replace hm := hm.2 q36
        refine xr_iconst (v := 0) C dX4_read_134 rfl ?_
        exact xr_zreturn C hr hlk (Or.inl rfl) hm dX4_read_135
      · replace hm := hm.1 q36
        refine xr_iconst (v := 1) C dX4_read_130 rfl ?_
        refine xr_goto (tgt := 135) C dX4_read_131 (by decide) ?_
        exact xr_zreturn C hr hlk (Or.inr rfl) hm dX4_read_135
    · replace hm := hm.2 q33
      refine xr_aload_n (r := rv1) C dX4_read_66 1 rfl ?_
      obtain ⟨a38, rfl, hm⟩ := hm
      obtain ⟨fs37, x39, e37, f37, hm⟩ := hm
      refine xr_get (ci := 3) C 0 e37 f37 rfl inX2 (by decide) wd_151 dX4_read_67 ?_
      refine xr_iload_n C dX4_read_70 3 rfl ?_
      refine xr_cSi (n := 2) (As := [.int x39, .int xv3]) (st := []) C (c_X4_hasField x39 xv3 h 0 0 hm) wd_157 wd_159 wd_143 wd_158 (by decide +kernel) rfl (by rw [hR.1, hR.2]; decide) (Nat.zero_add _).symm (Nat.zero_add _).symm rfl (Nat.le_of_ble_eq_true rfl) dX4_read_71 (fun x41 h42 hn => ?_)
      clear hm
      have hm := hn
      clear hn
      refine xr_if_eq (tgt := 116) C dX4_read_74 (by decide) (fun q43 => ?_) (fun q43 => ?_)
      · replace hm := hm.1 q43
        exact k_X4_read_L116 C hr hlk hnm hR ih a0 (some a38) xv2 xv3 _ _ _ hm
      · replace hm := hm.2 q43
        refine xr_aload_n (r := (some a0)) C dX4_read_77 0 rfl ?_
        refine xr_iload_n C dX4_read_78 2 rfl ?_
        refine xr_iload_n C dX4_read_79 3 rfl ?_
        obtain ⟨⟨fs44, e44⟩, hm⟩ := hm
        refine xr_cVi (n := 2) (As := [.int xv2, .int xv3]) (st := []) C (c_X4_isFieldAt a0 xv2 xv3 h42 0 0 hm) e44 rfl wd_379 wd_381 wd_382 wd_143 wd_380 (by decide +kernel) rfl (by rw [hR.1, hR.2]; decide) (Nat.zero_add _).symm (Nat.zero_add _).symm rfl (Nat.le_of_ble_eq_true rfl) dX4_read_80 (fun x45 h46 hn => ?_)
        clear hm
        have hm := hn
        clear hn
        refine xr_if_ne (tgt := 88) C dX4_read_83 (by decide) (fun q47 => ?_) (fun q47 => ?_)
        · replace hm := hm.2 q47
          refine xr_aload_n (r := (some a38)) C dX4_read_88 1 rfl ?_
          obtain ⟨fs48, r49, e48, f48, hm⟩ := hm
          refine xr_get (ci := 3) C 3 e48 f48 rfl inX2 (by decide) wd_152 dX4_read_89 ?_
          refine xr_iload_n C dX4_read_92 3 rfl ?_
          refine xr_aload_n (r := (some a0)) C dX4_read_93 0 rfl ?_
          refine xr_iload_n C dX4_read_94 2 rfl ?_
          refine xr_iconst (v := 2) C dX4_read_95 rfl ?_
          refine xr_iadd C dX4_read_96 ?_
          refine xr_getsN (host := "CardPayments") C 1 rfl wn_5 dX4_read_97 ?_
          refine xr_iload_n C dX4_read_100 3 rfl ?_
          obtain ⟨N51, f51, x52, e51, b51, v51, hm⟩ := hm
          refine xr_roi C 1 e51 b51 v51 dX4_read_101 ?_
          obtain ⟨⟨fs53, e53⟩, hm⟩ := hm
          refine xr_cVl (n := 2) (As := [.int (xv2 + 2), .int x52]) (st := [.int xv3, va_rf r49]) C (c_X4_numberAt a0 (xv2 + 2) x52 h46 0 0 hm) e53 rfl wd_375 wd_377 wd_378 wd_143 wd_376 (by decide +kernel) rfl (by rw [hR.1, hR.2]; decide) (Nat.zero_add _).symm (Nat.zero_add _).symm rfl (by simp [xv_cat, xv_ci, xv_cl, xv_cr, xv_cn]) dX4_read_102 (fun y54 h55 hn => ?_)
          clear hm
          have hm := hn
          clear hn
          obtain ⟨a57, rfl, hm⟩ := hm
          obtain ⟨N56, f56, e56, b56, h58, v56, hm⟩ := hm
          refine xr_last C 1 rfl e56 b56 v56 dX4_read_105 ?_
          refine xr_iload_n C dX4_read_106 2 rfl ?_
          refine xr_iconst (v := 2) C dX4_read_107 rfl ?_
          refine xr_getsN (host := "CardPayments") C 1 rfl wn_5 dX4_read_108 ?_
          refine xr_iload_n C dX4_read_111 3 rfl ?_
          obtain ⟨N60, f60, x61, e60, b60, v60, hm⟩ := hm
          refine xr_roi C 1 e60 b60 v60 dX4_read_112 ?_
          refine xr_iadd C dX4_read_113 ?_
          refine xr_iadd C dX4_read_114 ?_
          refine xr_istore_n (lv' := [(2, .int (xv2 + (2 + x61))), (0, .ref a0), (1, .ref a38), (3, .int xv3)]) C dX4_read_115 (by decide) rfl ?_
          refine xr_sub [1, 2, 0, 3] rfl ?_
          exact k_X4_read_L116 C hr hlk hnm hR ih a0 (some a38) (xv2 + (2 + x61)) xv3 _ _ _ hm
        · replace hm := hm.1 q47
          refine xr_iconst (v := 0) C dX4_read_86 rfl ?_
          exact xr_zreturn C hr hlk (Or.inl rfl) hm dX4_read_87
set_option maxRecDepth 100000 in
set_option maxHeartbeats 4000000 in
theorem c_X4_read {l : Launch} {D : va_G} {E : Ev} (a0 : Nat) (rp1 : Option Nat) (h : Hp) (kc ks : Nat) {Q : Int32 → Hp → Prop} (hm : m_X4_read E a0 rp1 h kc ks Q) : XMet l yX4_read cX4_read 4 (some .boolean) 1 25 kc ks D E h [.ref a0, va_rf rp1] (fun A => va_Qi Q (XPost D A) A) := by
  refine xm_of (lv0 := [(0, .ref a0), (1, va_rf rp1)]) (by decide) (by simp [lg_sl, xv_cat, xv_ci, xv_cl, xv_cr, xv_cn]) (by simp [lv_args, xv_cat, xv_ci, xv_cl, xv_cr, xv_cn]) RX4 rfl (fun p e s m args below meth c A R hRm C hr hlk hnm => ?_)
  have hR : R.frames = 1 ∧ R.locals = 25 := by rw [hRm]; exact ⟨rfl, rfl⟩
  refine xr_aload_n (r := (some a0)) C dX4_read_0 0 rfl ?_
  obtain ⟨fs1, x2, e1, f1, hm⟩ := hm
  refine xr_get (ci := 5) C 4 e1 f1 rfl inX4 (by decide) wd_150 dX4_read_1 ?_
  refine xr_if_eq (tgt := 28) C dX4_read_4 (by decide) (fun q3 => ?_) (fun q3 => ?_)
  · replace hm := hm.1 q3
    refine xr_iconst (v := 0) C dX4_read_28 rfl ?_
    exact xr_zreturn C hr hlk (Or.inl rfl) hm dX4_read_29
  · replace hm := hm.2 q3
    refine xr_aload_n (r := (some a0)) C dX4_read_7 0 rfl ?_
    obtain ⟨fs4, r5, e4, f4, hm⟩ := hm
    refine xr_get (ci := 5) C 5 e4 f4 rfl inX4 (by decide) wd_137 dX4_read_8 ?_
    refine xr_iconst (v := 0) C dX4_read_11 rfl ?_
    obtain ⟨a7, rfl, hm⟩ := hm
    obtain ⟨N6, f6, x8, e6, b6, v6, hm⟩ := hm
    refine xr_iald C 0 rfl e6 b6 v6 dX4_read_12 ?_
    refine xr_iconst (v := 1) C dX4_read_13 rfl ?_
    refine xr_icmp_lt (tgt := 28) C dX4_read_14 (by decide) (fun q9 => ?_) (fun q9 => ?_)
    · replace hm := hm.1 q9
      refine xr_iconst (v := 0) C dX4_read_28 rfl ?_
      exact xr_zreturn C hr hlk (Or.inl rfl) hm dX4_read_29
    · replace hm := hm.2 q9
      refine xr_aload_n (r := (some a0)) C dX4_read_17 0 rfl ?_
      obtain ⟨fs10, r11, e10, f10, hm⟩ := hm
      refine xr_get (ci := 5) C 5 e10 f10 rfl inX4 (by decide) wd_137 dX4_read_18 ?_
      refine xr_iconst (v := 0) C dX4_read_21 rfl ?_
      obtain ⟨a13, rfl, hm⟩ := hm
      obtain ⟨N12, f12, x14, e12, b12, v12, hm⟩ := hm
      refine xr_iald C 0 rfl e12 b12 v12 dX4_read_22 ?_
      refine xr_bipush (v := 11) C dX4_read_23 rfl ?_
      refine xr_icmp_le (tgt := 30) C dX4_read_25 (by decide) (fun q15 => ?_) (fun q15 => ?_)
      · replace hm := hm.1 q15
        refine xr_aload_n (r := rp1) C dX4_read_30 1 rfl ?_
        refine xr_aload_n (r := (some a0)) C dX4_read_31 0 rfl ?_
        obtain ⟨fs16, r17, e16, f16, hm⟩ := hm
        refine xr_get (ci := 5) C 5 e16 f16 rfl inX4 (by decide) wd_137 dX4_read_32 ?_
        refine xr_iconst (v := 0) C dX4_read_35 rfl ?_
        obtain ⟨a19, rfl, hm⟩ := hm
        obtain ⟨N18, f18, x20, e18, b18, v18, hm⟩ := hm
        refine xr_iald C 0 rfl e18 b18 v18 dX4_read_36 ?_
        obtain ⟨a22, rfl, hm⟩ := hm
        obtain ⟨fs21, e21, f21, h23, eh21, hm⟩ := hm
        refine xr_put (ci := 3) (v := .int x20) C 0 .int tyX2 tyX2_ok nmX2 e21 f21 rfl inX2 (by decide) wd_151 rfl (by decide) rfl rfl eh21 dX4_read_37 ?_
        refine xr_aload_n (r := (some a22)) C dX4_read_40 1 rfl ?_
        refine xr_aload_n (r := (some a0)) C dX4_read_41 0 rfl ?_
        obtain ⟨fs24, x25, e24, f24, hm⟩ := hm
        refine xr_get (ci := 5) C 0 e24 f24 rfl inX4 (by decide) wd_371 dX4_read_42 ?_
        obtain ⟨fs26, e26, f26, h27, eh26, hm⟩ := hm
        refine xr_put (ci := 3) (v := .int x25) C 1 .int tyX2 tyX2_ok nmX2 e26 f26 rfl inX2 (by decide) wd_372 rfl (by decide) rfl rfl eh26 dX4_read_45 ?_
        refine xr_aload_n (r := (some a22)) C dX4_read_48 1 rfl ?_
        refine xr_aload_n (r := (some a0)) C dX4_read_49 0 rfl ?_
        obtain ⟨fs28, x29, e28, f28, hm⟩ := hm
        refine xr_get (ci := 5) C 1 e28 f28 rfl inX4 (by decide) wd_373 dX4_read_50 ?_
        obtain ⟨fs30, e30, f30, h31, eh30, hm⟩ := hm
        refine xr_put (ci := 3) (v := .int x29) C 2 .int tyX2 tyX2_ok nmX2 e30 f30 rfl inX2 (by decide) wd_374 rfl (by decide) rfl rfl eh30 dX4_read_53 ?_
        refine xr_iconst (v := 1) C dX4_read_56 rfl ?_
        refine xr_istore_n (lv' := [(2, .int 1), (0, .ref a0), (1, .ref a22)]) C dX4_read_57 (by decide) rfl ?_
        refine xr_iconst (v := 1) C dX4_read_58 rfl ?_
        refine xr_istore_n (lv' := [(3, .int 1), (2, .int 1), (0, .ref a0), (1, .ref a22)]) C dX4_read_59 (by decide) rfl ?_
        obtain ⟨n32, hm⟩ := hm
        refine xr_sub [2, 3, 1, 0] rfl ?_
        exact k_X4_read_L60 C hr hlk hnm hR n32 a0 (some a22) 1 1 _ _ _ hm
      · replace hm := hm.2 q15
        refine xr_iconst (v := 0) C dX4_read_28 rfl ?_
        exact xr_zreturn C hr hlk (Or.inl rfl) hm dX4_read_29
