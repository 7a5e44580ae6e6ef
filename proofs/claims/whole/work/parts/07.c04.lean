set_option maxRecDepth 100000 in
set_option maxHeartbeats 4000000 in
theorem c_X8_takes {l : Launch} {D : va_G} {E : Ev} (a0 : Nat) (rp1 : Option Nat) (h : Hp) (kc ks : Nat) {Q : Int32 → Hp → Prop} (hm : m_X8_takes E a0 rp1 h kc ks Q) : XMet l yX8_takes cX8_takes 2 (some .boolean) 10 256 kc ks D E h [.ref a0, va_rf rp1] (fun A => va_Qi Q (XPost D A) A) := by
  refine xm_of (lv0 := [(0, .ref a0), (1, va_rf rp1)]) (by decide) (by simp [lg_sl, xv_cat, xv_ci, xv_cl, xv_cr, xv_cn]) (by simp [lv_args, xv_cat, xv_ci, xv_cl, xv_cr, xv_cn]) RX8 rfl (fun p e s m args below meth c A R hRm C hr hlk hnm => ?_)
  have hR : R.frames = 10 ∧ R.locals = 256 := by rw [hRm]; exact ⟨rfl, rfl⟩
  refine xr_aload_n (r := rp1) C dX8_takes_0 1 rfl ?_
  obtain ⟨a2, rfl, hm⟩ := hm
  obtain ⟨fs1, x3, e1, f1, hm⟩ := hm
  refine xr_get (ci := 3) C 0 e1 f1 rfl inX2 (by decide) wd_460 dX8_takes_1 ?_
  refine xr_aload_n (r := (some a0)) C dX8_takes_4 0 rfl ?_
  obtain ⟨fs4, x5, e4, f4, hm⟩ := hm
  refine xr_get (ci := 9) C 12 e4 f4 rfl inX8 (by decide) wd_390 dX8_takes_5 ?_
  refine xr_icmp_eq (tgt := 13) C dX8_takes_8 (by decide) (fun q6 => ?_) (fun q6 => ?_)
  · replace hm := hm.1 q6
    refine xr_aload_n (r := (some a2)) C dX8_takes_13 1 rfl ?_
    obtain ⟨fs7, x8, e7, f7, hm⟩ := hm
    refine xr_get (ci := 3) C 0 e7 f7 rfl inX2 (by decide) wd_460 dX8_takes_14 ?_
    by_cases q_0 : x8 = 2
    · replace hm := hm.1 q_0
      refine xr_tableIn (tgt := 68) C dX8_takes_17 (by rw [q_0]; decide) (by rw [q_0]; decide) (by rw [q_0] <;> rfl) (by decide) ?_
      refine xr_aload_n (r := (some a0)) C dX8_takes_68 0 rfl ?_
      refine xr_aload_n (r := (some a2)) C dX8_takes_69 1 rfl ?_
      obtain ⟨⟨fs9, e9⟩, hm⟩ := hm
      obtain ⟨mc10, ms11, kc12, ks13, kk9, kl9, hm⟩ := hm
      refine xr_cVv (n := 1) (As := [.ref a2]) (st := []) C (c_X8_takeCard a0 (some a2) h mc10 ms11 hm) e9 rfl wd_461 wd_463 wd_464 wd_405 wd_462 (by decide +kernel) rfl (by rw [hR.1, hR.2]; decide) kk9 kl9 rfl (Nat.le_of_ble_eq_true rfl) dX8_takes_70 (fun h15 hn => ?_)
      clear hm
      have hm := hn
      clear hn
      refine xr_iconst (v := 1) C dX8_takes_73 rfl ?_
      exact xr_zreturn C hr hlk (Or.inr rfl) hm dX8_takes_74
    · replace hm := hm.2 q_0
      by_cases q_1 : x8 = 4
      · replace hm := hm.1 q_1
        refine xr_tableIn (tgt := 75) C dX8_takes_17 (by rw [q_1]; decide) (by rw [q_1]; decide) (by rw [q_1] <;> rfl) (by decide) ?_
        refine xr_aload_n (r := (some a0)) C dX8_takes_75 0 rfl ?_
        refine xr_aload_n (r := (some a2)) C dX8_takes_76 1 rfl ?_
        obtain ⟨⟨fs16, e16⟩, hm⟩ := hm
        obtain ⟨mc17, ms18, kc19, ks20, kk16, kl16, hm⟩ := hm
        refine xr_cVv (n := 1) (As := [.ref a2]) (st := []) C (c_X8_takePinned a0 (some a2) h mc17 ms18 hm) e16 rfl wd_465 wd_467 wd_468 wd_405 wd_466 (by decide +kernel) rfl (by rw [hR.1, hR.2]; decide) kk16 kl16 rfl (Nat.le_of_ble_eq_true rfl) dX8_takes_77 (fun h22 hn => ?_)
        clear hm
        have hm := hn
        clear hn
        refine xr_iconst (v := 1) C dX8_takes_80 rfl ?_
        exact xr_zreturn C hr hlk (Or.inr rfl) hm dX8_takes_81
      · replace hm := hm.2 q_1
        by_cases q_2 : x8 = 6
        · replace hm := hm.1 q_2
          refine xr_tableIn (tgt := 82) C dX8_takes_17 (by rw [q_2]; decide) (by rw [q_2]; decide) (by rw [q_2] <;> rfl) (by decide) ?_
          refine xr_aload_n (r := (some a0)) C dX8_takes_82 0 rfl ?_
          refine xr_aload_n (r := (some a2)) C dX8_takes_83 1 rfl ?_
          obtain ⟨⟨fs23, e23⟩, hm⟩ := hm
          obtain ⟨mc24, ms25, kc26, ks27, kk23, kl23, hm⟩ := hm
          refine xr_cVv (n := 1) (As := [.ref a2]) (st := []) C (c_X8_takeAnswer a0 (some a2) h mc24 ms25 hm) e23 rfl wd_469 wd_471 wd_472 wd_405 wd_470 (by decide +kernel) rfl (by rw [hR.1, hR.2]; decide) kk23 kl23 rfl (Nat.le_of_ble_eq_true rfl) dX8_takes_84 (fun h29 hn => ?_)
          clear hm
          have hm := hn
          clear hn
          refine xr_iconst (v := 1) C dX8_takes_87 rfl ?_
          exact xr_zreturn C hr hlk (Or.inr rfl) hm dX8_takes_88
        · replace hm := hm.2 q_2
          by_cases q_3 : x8 = 8
          · replace hm := hm.1 q_3
            refine xr_tableIn (tgt := 89) C dX8_takes_17 (by rw [q_3]; decide) (by rw [q_3]; decide) (by rw [q_3] <;> rfl) (by decide) ?_
            refine xr_aload_n (r := (some a0)) C dX8_takes_89 0 rfl ?_
            refine xr_aload_n (r := (some a2)) C dX8_takes_90 1 rfl ?_
            obtain ⟨⟨fs30, e30⟩, hm⟩ := hm
            obtain ⟨mc31, ms32, kc33, ks34, kk30, kl30, hm⟩ := hm
            refine xr_cVi (n := 1) (As := [.ref a2]) (st := []) C (c_X8_takesWord a0 (some a2) h mc31 ms32 hm) e30 rfl wd_473 wd_475 wd_476 wd_405 wd_474 (by decide +kernel) rfl (by rw [hR.1, hR.2]; decide) kk30 kl30 rfl (Nat.le_of_ble_eq_true rfl) dX8_takes_91 (fun x35 h36 hn => ?_)
            clear hm
            have hm := hn
            clear hn
            exact xr_zreturn C hr hlk hm.1 hm.2 dX8_takes_94
          · replace hm := hm.2 q_3
            by_cases q_4 : x8 = 10
            · replace hm := hm.1 q_4
              refine xr_tableIn (tgt := 95) C dX8_takes_17 (by rw [q_4]; decide) (by rw [q_4]; decide) (by rw [q_4] <;> rfl) (by decide) ?_
              refine xr_aload_n (r := (some a0)) C dX8_takes_95 0 rfl ?_
              refine xr_aload_n (r := (some a2)) C dX8_takes_96 1 rfl ?_
              obtain ⟨⟨fs37, e37⟩, hm⟩ := hm
              refine xr_cVv (n := 1) (As := [.ref a2]) (st := []) C (c_X8_takeLast a0 (some a2) h 0 0 hm) e37 rfl wd_477 wd_479 wd_480 wd_405 wd_478 (by decide +kernel) rfl (by rw [hR.1, hR.2]; decide) (Nat.zero_add _).symm (Nat.zero_add _).symm rfl (Nat.le_of_ble_eq_true rfl) dX8_takes_97 (fun h39 hn => ?_)
              clear hm
              have hm := hn
              clear hn
              refine xr_iconst (v := 1) C dX8_takes_100 rfl ?_
              exact xr_zreturn C hr hlk (Or.inr rfl) hm dX8_takes_101
            · replace hm := hm.2 q_4
              have z_0 := lv_neT (a := 2) q_0 rfl
              have z_1 := lv_neT (a := 4) q_1 rfl
              have z_2 := lv_neT (a := 6) q_2 rfl
              have z_3 := lv_neT (a := 8) q_3 rfl
              have z_4 := lv_neT (a := 10) q_4 rfl
              by_cases w_0 : x8 = 3
              · refine xr_tableIn (tgt := 102) C dX8_takes_17 (by rw [w_0]; decide) (by rw [w_0]; decide) (by rw [w_0] <;> rfl) (by decide) ?_
                refine xr_iconst (v := 0) C dX8_takes_102 rfl ?_
                exact xr_zreturn C hr hlk (Or.inl rfl) hm dX8_takes_103
              · have y_0 := lv_neT (a := 3) w_0 rfl
                by_cases w_1 : x8 = 5
                · refine xr_tableIn (tgt := 102) C dX8_takes_17 (by rw [w_1]; decide) (by rw [w_1]; decide) (by rw [w_1] <;> rfl) (by decide) ?_
                  refine xr_iconst (v := 0) C dX8_takes_102 rfl ?_
                  exact xr_zreturn C hr hlk (Or.inl rfl) hm dX8_takes_103
                · have y_1 := lv_neT (a := 5) w_1 rfl
                  by_cases w_2 : x8 = 7
                  · refine xr_tableIn (tgt := 102) C dX8_takes_17 (by rw [w_2]; decide) (by rw [w_2]; decide) (by rw [w_2] <;> rfl) (by decide) ?_
                    refine xr_iconst (v := 0) C dX8_takes_102 rfl ?_
                    exact xr_zreturn C hr hlk (Or.inl rfl) hm dX8_takes_103
                  · have y_2 := lv_neT (a := 7) w_2 rfl
                    by_cases w_3 : x8 = 9
                    · refine xr_tableIn (tgt := 102) C dX8_takes_17 (by rw [w_3]; decide) (by rw [w_3]; decide) (by rw [w_3] <;> rfl) (by decide) ?_
                      refine xr_iconst (v := 0) C dX8_takes_102 rfl ?_
                      exact xr_zreturn C hr hlk (Or.inl rfl) hm dX8_takes_103
                    · have y_3 := lv_neT (a := 9) w_3 rfl
                      refine xr_tableOut (tgt := 102) C dX8_takes_17 (by omega) (by decide) ?_
                      refine xr_iconst (v := 0) C dX8_takes_102 rfl ?_
                      exact xr_zreturn C hr hlk (Or.inl rfl) hm dX8_takes_103
  · replace hm := hm.2 q6
    refine xr_iconst (v := 0) C dX8_takes_11 rfl ?_
    exact xr_zreturn C hr hlk (Or.inl rfl) hm dX8_takes_12
set_option maxRecDepth 100000 in
set_option maxHeartbeats 4000000 in
theorem k_Jx4a65c_clear_da8c8_L27 {p : Program} {l : Launch} {e : Env} {R : Room} {s : State} {m : MethodId} {args : Array Value} {below : List Frame} {meth : Method} {c : Code} {D : va_G} {E : Ev} {A : Nat → Prop} {KC KS : Nat} (C : XC p R s m args c D E A 4 RJx4a65c cJx4a65c_clear_da8c8 KC KS) (hr : meth.sig.returnType = none) (hlk : meth.locks = false) (hnm : meth.name = "clear") (hR : R.frames = 0 ∧ R.locals = 0) {Q : Hp → Prop} : ∀ (n : Nat) (rv1 : Option Nat) (xv2 : Int32) (xv3 : Int32) (h : Hp) (kc ks : Nat), m_Jx4a65c_clear_da8c8_L27 n E rv1 xv2 xv3 h kc ks Q → XW p l e R s m args below meth c (MQ below (va_Qv Q (XPost D A) A) args s KC KS A) D A KC KS 4 h kc ks [(1, va_rf rv1), (2, .int xv2), (3, .int xv3)] 27 [] := by
  intro n
  induction n with
  | zero => intro rv1 xv2 xv3 h kc ks hm; exact False.elim hm
  | succ n ih =>
    intro rv1 xv2 xv3 h kc ks hm
    refine xr_iload_n C dJx4a65c_clear_da8c8_27 2 rfl ?_
    refine xr_iload_n C dJx4a65c_clear_da8c8_28 1 rfl ?_
    refine xr_icmp_ge (tgt := 42) C dJx4a65c_clear_da8c8_29 (by decide) (fun q12 => ?_) (fun q12 => ?_)
    · replace hm := hm.1 q12
      exact xr_vreturn C hr hlk hm dJx4a65c_clear_da8c8_42
    · replace hm := hm.2 q12
      refine xr_aload_n (r := rv1) C dJx4a65c_clear_da8c8_32 0 rfl ?_
      refine xr_iload_n C dJx4a65c_clear_da8c8_33 2 rfl ?_
      refine xr_null C dJx4a65c_clear_da8c8_34 ?_
      obtain ⟨a14, rfl, hm⟩ := hm
      obtain ⟨N13, f13, e13, b13, h15, v13, hm⟩ := hm
      refine xr_aastN C 4 rfl e13 b13 v13 dJx4a65c_clear_da8c8_35 ?_
      refine xr_iinc (j := 2) (v := xv3 + 1) (lv' := [(3, .int (xv3 + 1)), (1, .ref a14), (2, .int xv2)]) C dJx4a65c_clear_da8c8_36 rfl rfl (by decide) rfl ?_
      refine xr_goto (tgt := 27) C dJx4a65c_clear_da8c8_39 (by decide) ?_
      refine xr_sub [1, 2, 0] rfl ?_
      exact ih (some a14) xv2 (xv3 + 1) _ _ _ hm
set_option maxRecDepth 100000 in
set_option maxHeartbeats 4000000 in
theorem c_Jx4a65c_clear_da8c8 {l : Launch} {D : va_G} {E : Ev} (a0 : Nat) (h : Hp) (kc ks : Nat) {Q : Hp → Prop} (hm : m_Jx4a65c_clear_da8c8 E a0 h kc ks Q) : XMet l yJx4a65c_clear_da8c8 cJx4a65c_clear_da8c8 4 none 0 0 kc ks D E h [.ref a0] (fun A => va_Qv Q (XPost D A) A) := by
  refine xm_of (lv0 := [(0, .ref a0)]) (by decide) (Nat.le_of_ble_eq_true rfl) rfl RJx4a65c rfl (fun p e s m args below meth c A R hRm C hr hlk hnm => ?_)
  have hR : R.frames = 0 ∧ R.locals = 0 := by rw [hRm]; exact ⟨rfl, rfl⟩
  refine xr_aload_n (r := (some a0)) C dJx4a65c_clear_da8c8_0 0 rfl ?_
  refine xr_dup C dJx4a65c_clear_da8c8_1 rfl ?_
  obtain ⟨fs1, x2, e1, f1, hm⟩ := hm
  refine xr_getS (ci := 0) C 0 e1 f1 rfl inJx4a65c (by decide) wd_104 wd_105 dJx4a65c_clear_da8c8_2 ?_
  refine xr_iconst (v := 1) C dJx4a65c_clear_da8c8_5 rfl ?_
  refine xr_iadd C dJx4a65c_clear_da8c8_6 ?_
  obtain ⟨fs3, e3, f3, h4, eh3, hm⟩ := hm
  refine xr_putS (ci := 0) (v := .int (x2 + 1)) C 0 .int tyJx4a65c tyJx4a65c_ok nmJx4a65c e3 f3 rfl inJx4a65c (by decide) wd_104 wd_105 rfl (by decide) rfl rfl eh3 dJx4a65c_clear_da8c8_7 ?_
  refine xr_aload_n (r := (some a0)) C dJx4a65c_clear_da8c8_10 0 rfl ?_
  obtain ⟨fs5, r6, e5, f5, hm⟩ := hm
  refine xr_get (ci := 0) C 1 e5 f5 rfl inJx4a65c (by decide) wd_40 dJx4a65c_clear_da8c8_11 ?_
  refine xr_astore_n (r := r6) (lv' := [(1, va_rf r6), (0, .ref a0)]) C dJx4a65c_clear_da8c8_14 (by decide) rfl ?_
  refine xr_aload_n (r := (some a0)) C dJx4a65c_clear_da8c8_15 1 rfl ?_
  obtain ⟨fs7, x8, e7, f7, hm⟩ := hm
  refine xr_get (ci := 0) C 2 e7 f7 rfl inJx4a65c (by decide) wd_35 dJx4a65c_clear_da8c8_16 ?_
  refine xr_istore_n (lv' := [(2, .int x8), (1, va_rf r6), (0, .ref a0)]) C dJx4a65c_clear_da8c8_19 (by decide) (by simp [xv_put1, xv_cat, xv_ci, xv_cl, xv_cr, xv_cn] <;> decide) ?_
  refine xr_aload_n (r := (some a0)) C dJx4a65c_clear_da8c8_20 2 rfl ?_
  refine xr_iconst (v := 0) C dJx4a65c_clear_da8c8_21 rfl ?_
  refine xr_dup_x1 C dJx4a65c_clear_da8c8_22 rfl rfl ?_
  obtain ⟨fs9, e9, f9, h10, eh9, hm⟩ := hm
  refine xr_put (ci := 0) (v := .int 0) C 2 .int tyJx4a65c tyJx4a65c_ok nmJx4a65c e9 f9 rfl inJx4a65c (by decide) wd_35 rfl (by decide) rfl rfl eh9 dJx4a65c_clear_da8c8_23 ?_
  refine xr_istore_n (lv' := [(3, .int 0), (2, .int x8), (1, va_rf r6), (0, .ref a0)]) C dJx4a65c_clear_da8c8_26 (by decide) rfl ?_
  obtain ⟨n11, hm⟩ := hm
  refine xr_sub [2, 1, 0] rfl ?_
  exact k_Jx4a65c_clear_da8c8_L27 C hr hlk hnm hR n11 r6 x8 0 _ _ _ hm
set_option maxRecDepth 100000 in
set_option maxHeartbeats 4000000 in
theorem k_X8_sendBatch_L38 {p : Program} {l : Launch} {e : Env} {R : Room} {s : State} {m : MethodId} {args : Array Value} {below : List Frame} {meth : Method} {c : Code} {D : va_G} {E : Ev} {A : Nat → Prop} {KC KS : Nat} (C : XC p R s m args c D E A 3 RX8 cX8_sendBatch KC KS) (hr : meth.sig.returnType = (some .int)) (hlk : meth.locks = false) (hnm : meth.name = "sendBatch") (hR : R.frames = 9 ∧ R.locals = 235) {K4 : Nat → Int32 → Int32 → Hp → Nat → Nat → Prop} {Q : Int32 → Hp → Prop} (hK4 : ∀ (a0 : Nat) (xv1 : Int32) (xv2 : Int32) (h : Hp) (kc ks : Nat), K4 a0 xv1 xv2 h kc ks → XW p l e R s m args below meth c (MQ below (va_Qi Q (XPost D A) A) args s KC KS A) D A KC KS 3 h kc ks [(0, .ref a0), (1, .int xv1), (2, .int xv2)] 4 []) : ∀ (a0 : Nat) (xv1 : Int32) (xv2 : Int32) (h : Hp) (kc ks : Nat), m_X8_sendBatch_L38 E a0 xv1 xv2 h kc ks K4 Q → XW p l e R s m args below meth c (MQ below (va_Qi Q (XPost D A) A) args s KC KS A) D A KC KS 3 h kc ks [(0, .ref a0), (1, .int xv1), (2, .int xv2)] 38 [] := by
  intro a0 xv1 xv2 h kc ks hm
  refine xr_iinc (j := 2) (v := xv2 + 1) (lv' := [(2, .int (xv2 + 1)), (0, .ref a0), (1, .int xv1)]) C dX8_sendBatch_38 rfl rfl (by decide) rfl ?_
  refine xr_goto (tgt := 4) C dX8_sendBatch_41 (by decide) ?_
  refine xr_sub [1, 2, 0] rfl ?_
  exact hK4 a0 xv1 (xv2 + 1) _ _ _ hm
set_option maxRecDepth 100000 in
set_option maxHeartbeats 4000000 in
theorem k_X8_sendBatch_L4 {p : Program} {l : Launch} {e : Env} {R : Room} {s : State} {m : MethodId} {args : Array Value} {below : List Frame} {meth : Method} {c : Code} {D : va_G} {E : Ev} {A : Nat → Prop} {KC KS : Nat} (C : XC p R s m args c D E A 3 RX8 cX8_sendBatch KC KS) (hr : meth.sig.returnType = (some .int)) (hlk : meth.locks = false) (hnm : meth.name = "sendBatch") (hR : R.frames = 9 ∧ R.locals = 235) {Q : Int32 → Hp → Prop} : ∀ (n : Nat) (a0 : Nat) (xv1 : Int32) (xv2 : Int32) (h : Hp) (kc ks : Nat), m_X8_sendBatch_L4 n E a0 xv1 xv2 h kc ks Q → XW p l e R s m args below meth c (MQ below (va_Qi Q (XPost D A) A) args s KC KS A) D A KC KS 3 h kc ks [(0, .ref a0), (1, .int xv1), (2, .int xv2)] 4 [] := by
  intro n
  induction n with
  | zero => intro a0 xv1 xv2 h kc ks hm; exact False.elim hm
  | succ n ih =>
    intro a0 xv1 xv2 h kc ks hm
    refine xr_iload_n C dX8_sendBatch_4 2 rfl ?_
    refine xr_aload_n (r := (some a0)) C dX8_sendBatch_5 0 rfl ?_
    obtain ⟨fs2, r3, e2, f2, hm⟩ := hm
    refine xr_get (ci := 9) C 4 e2 f2 rfl inX8 (by decide) wd_387 dX8_sendBatch_6 ?_
    obtain ⟨a7, rfl, hm⟩ := hm
    obtain ⟨⟨fs4, e4⟩, hm⟩ := hm
    refine xr_cVi (n := 0) (As := []) (st := [.int xv2]) C (c_Jx4a65c_size_8abf5 a7 h 0 0 hm) e4 rfl wd_486 wd_113 wd_114 wd_45 wd_112 (by decide +kernel) rfl (by rw [hR.1, hR.2]; decide) (Nat.zero_add _).symm (Nat.zero_add _).symm rfl (Nat.le_of_ble_eq_true rfl) dX8_sendBatch_9 (fun x5 h6 hn => ?_)
    clear hm
    have hm := hn
    clear hn
    refine xr_icmp_ge (tgt := 44) C dX8_sendBatch_12 (by decide) (fun q8 => ?_) (fun q8 => ?_)
    · replace hm := hm.1 q8
      refine xr_aload_n (r := (some a0)) C dX8_sendBatch_44 0 rfl ?_
      obtain ⟨fs9, r10, e9, f9, hm⟩ := hm
      refine xr_get (ci := 9) C 4 e9 f9 rfl inX8 (by decide) wd_387 dX8_sendBatch_45 ?_
      obtain ⟨a14, rfl, hm⟩ := hm
      obtain ⟨⟨fs11, e11⟩, hm⟩ := hm
      refine xr_cVv (n := 0) (As := []) (st := []) C (c_Jx4a65c_clear_da8c8 a14 h6 0 0 hm) e11 rfl wd_481 wd_483 wd_484 wd_45 wd_482 (by decide +kernel) rfl (by rw [hR.1, hR.2]; decide) (Nat.zero_add _).symm (Nat.zero_add _).symm rfl (Nat.le_of_ble_eq_true rfl) dX8_sendBatch_48 (fun h13 hn => ?_)
      clear hm
      have hm := hn
      clear hn
      refine xr_iload_n C dX8_sendBatch_51 1 rfl ?_
      exact xr_ireturn C hr hlk hm dX8_sendBatch_52
    · replace hm := hm.2 q8
      refine xr_aload_n (r := (some a0)) C dX8_sendBatch_15 0 rfl ?_
      refine xr_bipush (v := 11) C dX8_sendBatch_16 rfl ?_
      refine xr_aload_n (r := (some a0)) C dX8_sendBatch_18 0 rfl ?_
      obtain ⟨fs15, r16, e15, f15, hm⟩ := hm
      refine xr_get (ci := 9) C 4 e15 f15 rfl inX8 (by decide) wd_387 dX8_sendBatch_19 ?_
      refine xr_iload_n C dX8_sendBatch_22 2 rfl ?_
      obtain ⟨a20, rfl, hm⟩ := hm
      obtain ⟨⟨fs17, e17⟩, hm⟩ := hm
      refine xr_cVq (n := 1) (As := [.int xv2]) (st := [.int 11, .ref a0]) C (c_Jx4a65c_get_915e3 a20 xv2 h6 0 0 hm) e17 rfl wd_485 wd_134 wd_135 wd_45 wd_133 (by decide +kernel) rfl (by rw [hR.1, hR.2]; decide) (Nat.zero_add _).symm (Nat.zero_add _).symm rfl (Nat.le_of_ble_eq_true rfl) dX8_sendBatch_23 (fun r18 h19 hn => ?_)
      clear hm
      have hm := hn
      clear hn
      obtain ⟨a22, rfl, hm⟩ := hm
      obtain ⟨⟨fs21, e21⟩, hm⟩ := hm
      refine xr_cast C e21 rfl wd_396 dX8_sendBatch_26 ?_
      obtain ⟨⟨fs23, e23⟩, hm⟩ := hm
      obtain ⟨mc24, ms25, kc26, ks27, kk23, kl23, hm⟩ := hm
      refine xr_cVi (n := 2) (As := [.int 11, .ref a22]) (st := []) C (c_X8_sendToHost a0 11 (some a22) h19 mc24 ms25 hm) e23 rfl wd_453 wd_455 wd_456 wd_405 wd_454 (by decide +kernel) rfl (by rw [hR.1, hR.2]; decide) kk23 kl23 rfl (Nat.le_of_ble_eq_true rfl) dX8_sendBatch_29 (fun x28 h29 hn => ?_)
      clear hm
      have hm := hn
      clear hn
      refine xr_if_eq (tgt := 38) C dX8_sendBatch_32 (by decide) (fun q30 => ?_) (fun q30 => ?_)
      · replace hm := hm.1 q30
        exact k_X8_sendBatch_L38 C hr hlk hnm hR ih a0 xv1 xv2 _ _ _ hm
      · replace hm := hm.2 q30
        refine xr_iinc (j := 1) (v := xv1 + 1) (lv' := [(1, .int (xv1 + 1)), (0, .ref a0), (2, .int xv2)]) C dX8_sendBatch_35 rfl rfl (by decide) rfl ?_
        refine xr_sub [1, 0, 2] rfl ?_
        exact k_X8_sendBatch_L38 C hr hlk hnm hR ih a0 (xv1 + 1) xv2 _ _ _ hm
set_option maxRecDepth 100000 in
set_option maxHeartbeats 4000000 in
theorem c_X8_sendBatch {l : Launch} {D : va_G} {E : Ev} (a0 : Nat) (h : Hp) (kc ks : Nat) {Q : Int32 → Hp → Prop} (hm : m_X8_sendBatch E a0 h kc ks Q) : XMet l yX8_sendBatch cX8_sendBatch 3 (some .int) 9 235 kc ks D E h [.ref a0] (fun A => va_Qi Q (XPost D A) A) := by
  refine xm_of (lv0 := [(0, .ref a0)]) (by decide) (Nat.le_of_ble_eq_true rfl) rfl RX8 rfl (fun p e s m args below meth c A R hRm C hr hlk hnm => ?_)
  have hR : R.frames = 9 ∧ R.locals = 235 := by rw [hRm]; exact ⟨rfl, rfl⟩
  refine xr_iconst (v := 0) C dX8_sendBatch_0 rfl ?_
  refine xr_istore_n (lv' := [(1, .int 0), (0, .ref a0)]) C dX8_sendBatch_1 (by decide) rfl ?_
  refine xr_iconst (v := 0) C dX8_sendBatch_2 rfl ?_
  refine xr_istore_n (lv' := [(2, .int 0), (1, .int 0), (0, .ref a0)]) C dX8_sendBatch_3 (by decide) rfl ?_
  obtain ⟨n1, hm⟩ := hm
  refine xr_sub [2, 1, 0] rfl ?_
  exact k_X8_sendBatch_L4 C hr hlk hnm hR n1 a0 0 0 _ _ _ hm
set_option maxRecDepth 100000 in
set_option maxHeartbeats 4000000 in
theorem c_X8_givesUpAfter {l : Launch} {D : va_G} {E : Ev} (a0 : Nat) (xp1 : Int32) (h : Hp) (kc ks : Nat) {Q : Int32 → Hp → Prop} (hm : m_X8_givesUpAfter E a0 xp1 h kc ks Q) : XMet l yX8_givesUpAfter cX8_givesUpAfter 2 (some .boolean) 1 21 kc ks D E h [.ref a0, .int xp1] (fun A => va_Qi Q (XPost D A) A) := by
  refine xm_of (lv0 := [(0, .ref a0), (1, .int xp1)]) (by decide) (Nat.le_of_ble_eq_true rfl) rfl RX8 rfl (fun p e s m args below meth c A R hRm C hr hlk hnm => ?_)
  have hR : R.frames = 1 ∧ R.locals = 21 := by rw [hRm]; exact ⟨rfl, rfl⟩
  refine xr_aload_n (r := (some a0)) C dX8_givesUpAfter_0 0 rfl ?_
  obtain ⟨fs1, x2, e1, f1, hm⟩ := hm
  refine xr_get (ci := 9) C 12 e1 f1 rfl inX8 (by decide) wd_390 dX8_givesUpAfter_1 ?_
  refine xr_if_ne (tgt := 9) C dX8_givesUpAfter_4 (by decide) (fun q3 => ?_) (fun q3 => ?_)
  · replace hm := hm.2 q3
    refine xr_aload_n (r := (some a0)) C dX8_givesUpAfter_9 0 rfl ?_
    refine xr_dup C dX8_givesUpAfter_10 rfl ?_
    obtain ⟨fs4, x5, e4, f4, hm⟩ := hm
    refine xr_get (ci := 9) C 13 e4 f4 rfl inX8 (by decide) wd_399 dX8_givesUpAfter_11 ?_
    refine xr_iload_n C dX8_givesUpAfter_14 1 rfl ?_
    refine xr_iadd C dX8_givesUpAfter_15 ?_
    obtain ⟨fs6, e6, f6, h7, eh6, hm⟩ := hm
    refine xr_put (ci := 9) (v := .int (x5 + xp1)) C 13 .int tyX8 tyX8_ok nmX8 e6 f6 rfl inX8 (by decide) wd_399 rfl (by decide) rfl rfl eh6 dX8_givesUpAfter_16 ?_
    refine xr_aload_n (r := (some a0)) C dX8_givesUpAfter_19 0 rfl ?_
    obtain ⟨fs8, x9, e8, f8, hm⟩ := hm
    refine xr_get (ci := 9) C 13 e8 f8 rfl inX8 (by decide) wd_399 dX8_givesUpAfter_20 ?_
    refine xr_bipush (v := 20) C dX8_givesUpAfter_23 rfl ?_
    refine xr_icmp_gt (tgt := 30) C dX8_givesUpAfter_25 (by decide) (fun q10 => ?_) (fun q10 => ?_)
    · replace hm := hm.1 q10
      refine xr_aload_n (r := (some a0)) C dX8_givesUpAfter_30 0 rfl ?_
      refine xr_iconst (v := 4) C dX8_givesUpAfter_31 rfl ?_
      obtain ⟨⟨fs11, e11⟩, hm⟩ := hm
      refine xr_cVv (n := 1) (As := [.int 4]) (st := []) C (c_X8_end a0 4 h7 0 0 hm) e11 rfl wd_439 wd_441 wd_442 wd_405 wd_440 (by decide +kernel) rfl (by rw [hR.1, hR.2]; decide) (Nat.zero_add _).symm (Nat.zero_add _).symm rfl (Nat.le_of_ble_eq_true rfl) dX8_givesUpAfter_32 (fun h13 hn => ?_)
      clear hm
      have hm := hn
      clear hn
      refine xr_iconst (v := 1) C dX8_givesUpAfter_35 rfl ?_
      exact xr_zreturn C hr hlk (Or.inr rfl) hm dX8_givesUpAfter_36
    · replace hm := hm.2 q10
      refine xr_iconst (v := 0) C dX8_givesUpAfter_28 rfl ?_
      exact xr_zreturn C hr hlk (Or.inl rfl) hm dX8_givesUpAfter_29
  · replace hm := hm.1 q3
    refine xr_iconst (v := 0) C dX8_givesUpAfter_7 rfl ?_
    exact xr_zreturn C hr hlk (Or.inl rfl) hm dX8_givesUpAfter_8
set_option maxRecDepth 100000 in
set_option maxHeartbeats 4000000 in
theorem c_X9_init {l : Launch} {D : va_G} {E : Ev} (a0 : Nat) (h : Hp) (kc ks : Nat) {Q : Hp → Prop} (hm : m_X9_init E a0 h kc ks Q) : XMet l yX9_init cX9_init 1 none 1 24 kc ks D E h [.ref a0] (fun A => va_Qv Q (XPost D A) A) := by
  refine xm_of (lv0 := [(0, .ref a0)]) (by decide) (Nat.le_of_ble_eq_true rfl) rfl RX9 rfl (fun p e s m args below meth c A R hRm C hr hlk hnm => ?_)
  have hR : R.frames = 1 ∧ R.locals = 24 := by rw [hRm]; exact ⟨rfl, rfl⟩
  refine xr_aload_n (r := (some a0)) C dX9_init_0 0 rfl ?_
  refine xr_obj C wd_487 wd_1 wd_2 (by rw [hR.1]; decide) (by rw [hR.2]; exact Nat.le_of_ble_eq_true rfl) dX9_init_1 ?_
  refine xr_aload_n (r := (some a0)) C dX9_init_4 0 rfl ?_
  refine xr_bipush (v := 60) C dX9_init_5 rfl ?_
  obtain ⟨N2, kc5, ks6, b2, c2, z2, kk2, kl2, hm⟩ := hm
  refine xr_newq C 3 rfl wd_144 (by decide) b2 c2 z2 kk2 kl2 dX9_init_7 (fun a3 h4 na2 eh2 => ?_)
  replace hm := hm a3 h4 na2 eh2
  obtain ⟨fs7, e7, f7, h8, eh7, hm⟩ := hm
  refine xr_putF (ci := 10) (v := .ref a3) C 0 (.array (.object "CardPayments$Message")) tyX9 tyX9_ok nmX9 e7 f7 rfl inX9 (by decide) wd_140 rfl hnm rfl (by decide) rfl rfl eh7 dX9_init_10 ?_
  exact xr_vreturn C hr hlk hm dX9_init_13
set_option maxRecDepth 100000 in
set_option maxHeartbeats 4000000 in
theorem k_X9_get_L21 {p : Program} {l : Launch} {e : Env} {R : Room} {s : State} {m : MethodId} {args : Array Value} {below : List Frame} {meth : Method} {c : Code} {D : va_G} {E : Ev} {A : Nat → Prop} {KC KS : Nat} (C : XC p R s m args c D E A 2 RX9 cX9_get KC KS) (hr : meth.sig.returnType = (some (.object "CardPayments$Message"))) (hlk : meth.locks = false) (hnm : meth.name = "get") (hR : R.frames = 0 ∧ R.locals = 0) {Q : Option Nat → Hp → Prop} : ∀  (h : Hp) (kc ks : Nat), m_X9_get_L21 E  h kc ks Q → XW p l e R s m args below meth c (MQ below (va_Qq Q (XPost D A) A) args s KC KS A) D A KC KS 2 h kc ks [] 21 [] := by
  intro  h kc ks hm
  refine xr_null C dX9_get_21 ?_
  exact xr_areturn (r := none) C hr (Or.inl ⟨_, rfl⟩) hlk hm dX9_get_22
set_option maxRecDepth 100000 in
set_option maxHeartbeats 4000000 in
theorem c_X9_get {l : Launch} {D : va_G} {E : Ev} (a0 : Nat) (xp1 : Int32) (h : Hp) (kc ks : Nat) {Q : Option Nat → Hp → Prop} (hm : m_X9_get E a0 xp1 h kc ks Q) : XMet l yX9_get cX9_get 2 (some (.object "CardPayments$Message")) 0 0 kc ks D E h [.ref a0, .int xp1] (fun A => va_Qq Q (XPost D A) A) := by
  refine xm_of (lv0 := [(0, .ref a0), (1, .int xp1)]) (by decide) (Nat.le_of_ble_eq_true rfl) rfl RX9 rfl (fun p e s m args below meth c A R hRm C hr hlk hnm => ?_)
  have hR : R.frames = 0 ∧ R.locals = 0 := by rw [hRm]; exact ⟨rfl, rfl⟩
  refine xr_iload_n C dX9_get_0 1 rfl ?_
  refine xr_if_lt (tgt := 21) C dX9_get_1 (by decide) (fun q1 => ?_) (fun q1 => ?_)
  · replace hm := hm.1 q1
    refine xr_sub [] rfl ?_
    exact k_X9_get_L21 C hr hlk hnm hR _ _ _ hm
  · replace hm := hm.2 q1
    refine xr_iload_n C dX9_get_4 1 rfl ?_
    refine xr_aload_n (r := (some a0)) C dX9_get_5 0 rfl ?_
    obtain ⟨fs2, x3, e2, f2, hm⟩ := hm
    refine xr_get (ci := 10) C 1 e2 f2 rfl inX9 (by decide) wd_139 dX9_get_6 ?_
    refine xr_icmp_ge (tgt := 21) C dX9_get_9 (by decide) (fun q4 => ?_) (fun q4 => ?_)
    · replace hm := hm.1 q4
      refine xr_sub [] rfl ?_
      exact k_X9_get_L21 C hr hlk hnm hR _ _ _ hm
    · replace hm := hm.2 q4
      refine xr_aload_n (r := (some a0)) C dX9_get_12 0 rfl ?_
      obtain ⟨fs5, r6, e5, f5, hm⟩ := hm
      refine xr_get (ci := 10) C 0 e5 f5 rfl inX9 (by decide) wd_140 dX9_get_13 ?_
      refine xr_iload_n C dX9_get_16 1 rfl ?_
      obtain ⟨a8, rfl, hm⟩ := hm
      obtain ⟨N7, f7, r9, e7, b7, v7, hm⟩ := hm
      refine xr_aald C 3 rfl e7 b7 v7 dX9_get_17 ?_
      refine xr_goto (tgt := 22) C dX9_get_18 (by decide) ?_
      exact xr_areturn (r := r9) C hr (Or.inl ⟨_, rfl⟩) hlk hm dX9_get_22
set_option maxRecDepth 100000 in
set_option maxHeartbeats 4000000 in
theorem k_X9_takeOff_L14 {p : Program} {l : Launch} {e : Env} {R : Room} {s : State} {m : MethodId} {args : Array Value} {below : List Frame} {meth : Method} {c : Code} {D : va_G} {E : Ev} {A : Nat → Prop} {KC KS : Nat} (C : XC p R s m args c D E A 4 RX9 cX9_takeOff KC KS) (hr : meth.sig.returnType = (some (.object "CardPayments$Message"))) (hlk : meth.locks = false) (hnm : meth.name = "takeOff") (hR : R.frames = 1 ∧ R.locals = 21) {Q : Option Nat → Hp → Prop} : ∀ (n : Nat) (a0 : Nat) (rv2 : Option Nat) (xv3 : Int32) (h : Hp) (kc ks : Nat), m_X9_takeOff_L14 n E a0 rv2 xv3 h kc ks Q → XW p l e R s m args below meth c (MQ below (va_Qq Q (XPost D A) A) args s KC KS A) D A KC KS 4 h kc ks [(0, .ref a0), (2, va_rf rv2), (3, .int xv3)] 14 [] := by
  intro n
  induction n with
  | zero => intro a0 rv2 xv3 h kc ks hm; exact False.elim hm
  | succ n ih =>
    intro a0 rv2 xv3 h kc ks hm
    refine xr_iload_n C dX9_takeOff_14 2 rfl ?_
    refine xr_iconst (v := 1) C dX9_takeOff_15 rfl ?_
    refine xr_iadd C dX9_takeOff_16 ?_
    refine xr_aload_n (r := (some a0)) C dX9_takeOff_17 0 rfl ?_
    obtain ⟨fs7, x8, e7, f7, hm⟩ := hm
    refine xr_get (ci := 10) C 1 e7 f7 rfl inX9 (by decide) wd_139 dX9_takeOff_18 ?_
    refine xr_icmp_ge (tgt := 44) C dX9_takeOff_21 (by decide) (fun q9 => ?_) (fun q9 => ?_)
    · replace hm := hm.1 q9
      refine xr_aload_n (r := (some a0)) C dX9_takeOff_44 0 rfl ?_
      refine xr_dup C dX9_takeOff_45 rfl ?_
      obtain ⟨fs10, x11, e10, f10, hm⟩ := hm
      refine xr_get (ci := 10) C 1 e10 f10 rfl inX9 (by decide) wd_139 dX9_takeOff_46 ?_
      refine xr_iconst (v := 1) C dX9_takeOff_49 rfl ?_
      refine xr_isub C dX9_takeOff_50 ?_
      obtain ⟨fs12, e12, f12, h13, eh12, hm⟩ := hm
      refine xr_put (ci := 10) (v := .int (x11 - 1)) C 1 .int tyX9 tyX9_ok nmX9 e12 f12 rfl inX9 (by decide) wd_139 rfl (by decide) rfl rfl eh12 dX9_takeOff_51 ?_
      refine xr_aload_n (r := (some a0)) C dX9_takeOff_54 0 rfl ?_
      obtain ⟨fs14, r15, e14, f14, hm⟩ := hm
      refine xr_get (ci := 10) C 0 e14 f14 rfl inX9 (by decide) wd_140 dX9_takeOff_55 ?_
      refine xr_aload_n (r := (some a0)) C dX9_takeOff_58 0 rfl ?_
      obtain ⟨fs16, x17, e16, f16, hm⟩ := hm
      refine xr_get (ci := 10) C 1 e16 f16 rfl inX9 (by decide) wd_139 dX9_takeOff_59 ?_
      refine xr_aload_n (r := rv2) C dX9_takeOff_62 1 rfl ?_
      obtain ⟨a19, rfl, hm⟩ := hm
      obtain ⟨a20, rfl, hm⟩ := hm
      obtain ⟨⟨fv18, ev18⟩, N18, f18, e18, b18, h21, v18, hm⟩ := hm
      refine xr_aast C 3 rfl e18 ev18 rfl b18 v18 dX9_takeOff_63 ?_
      refine xr_aload_n (r := (some a19)) C dX9_takeOff_64 1 rfl ?_
      exact xr_areturn (r := (some a19)) C hr (Or.inl ⟨_, rfl⟩) hlk hm dX9_takeOff_65
    · replace hm := hm.2 q9
      refine xr_aload_n (r := (some a0)) C dX9_takeOff_24 0 rfl ?_
      obtain ⟨fs22, r23, e22, f22, hm⟩ := hm
      refine xr_get (ci := 10) C 0 e22 f22 rfl inX9 (by decide) wd_140 dX9_takeOff_25 ?_
      refine xr_iload_n C dX9_takeOff_28 2 rfl ?_
      refine xr_aload_n (r := (some a0)) C dX9_takeOff_29 0 rfl ?_
      obtain ⟨fs24, r25, e24, f24, hm⟩ := hm
      refine xr_get (ci := 10) C 0 e24 f24 rfl inX9 (by decide) wd_140 dX9_takeOff_30 ?_
      refine xr_iload_n C dX9_takeOff_33 2 rfl ?_
      refine xr_iconst (v := 1) C dX9_takeOff_34 rfl ?_
      refine xr_iadd C dX9_takeOff_35 ?_
      obtain ⟨a27, rfl, hm⟩ := hm
      obtain ⟨N26, f26, r28, e26, b26, v26, hm⟩ := hm
      refine xr_aald C 3 rfl e26 b26 v26 dX9_takeOff_36 ?_
      obtain ⟨a30, rfl, hm⟩ := hm
      obtain ⟨a31, rfl, hm⟩ := hm
      obtain ⟨⟨fv29, ev29⟩, N29, f29, e29, b29, h32, v29, hm⟩ := hm
      refine xr_aast C 3 rfl e29 ev29 rfl b29 v29 dX9_takeOff_37 ?_
      refine xr_iinc (j := 2) (v := xv3 + 1) (lv' := [(3, .int (xv3 + 1)), (0, .ref a0), (2, va_rf rv2)]) C dX9_takeOff_38 rfl rfl (by decide) (by simp [xv_put1, xv_cat, xv_ci, xv_cl, xv_cr, xv_cn] <;> decide) ?_
      refine xr_goto (tgt := 14) C dX9_takeOff_41 (by decide) ?_
      refine xr_sub [1, 2, 0] rfl ?_
      exact ih a0 rv2 (xv3 + 1) _ _ _ hm
set_option maxRecDepth 100000 in
set_option maxHeartbeats 4000000 in
theorem c_X9_takeOff {l : Launch} {D : va_G} {E : Ev} (a0 : Nat) (xp1 : Int32) (h : Hp) (kc ks : Nat) {Q : Option Nat → Hp → Prop} (hm : m_X9_takeOff E a0 xp1 h kc ks Q) : XMet l yX9_takeOff cX9_takeOff 4 (some (.object "CardPayments$Message")) 1 21 kc ks D E h [.ref a0, .int xp1] (fun A => va_Qq Q (XPost D A) A) := by
  refine xm_of (lv0 := [(0, .ref a0), (1, .int xp1)]) (by decide) (Nat.le_of_ble_eq_true rfl) rfl RX9 rfl (fun p e s m args below meth c A R hRm C hr hlk hnm => ?_)
  have hR : R.frames = 1 ∧ R.locals = 21 := by rw [hRm]; exact ⟨rfl, rfl⟩
  refine xr_aload_n (r := (some a0)) C dX9_takeOff_0 0 rfl ?_
  refine xr_iload_n C dX9_takeOff_1 1 rfl ?_
  obtain ⟨⟨fs1, e1⟩, hm⟩ := hm
  refine xr_cVq (n := 1) (As := [.int xp1]) (st := []) C (c_X9_get a0 xp1 h 0 0 hm) e1 rfl wd_488 wd_490 wd_491 wd_171 wd_489 (by decide +kernel) rfl (by rw [hR.1, hR.2]; decide) (Nat.zero_add _).symm (Nat.zero_add _).symm rfl (Nat.le_of_ble_eq_true rfl) dX9_takeOff_2 (fun r2 h3 hn => ?_)
  clear hm
  have hm := hn
  clear hn
  refine xr_astore_n (r := r2) (lv' := [(2, va_rf r2), (0, .ref a0), (1, .int xp1)]) C dX9_takeOff_5 (by decide) rfl ?_
  refine xr_aload_n (r := r2) C dX9_takeOff_6 0 rfl ?_
  refine xr_ifnonnull (tgt := 12) C dX9_takeOff_7 (by decide) (fun a5 q4 => ?_) (fun q4 => ?_)
  · replace hm := hm.2 a5 q4
    subst q4
    refine xr_iload_n C dX9_takeOff_12 2 rfl ?_
    refine xr_istore_n (lv' := [(3, .int xp1), (2, .ref a5), (0, .ref a0), (1, .int xp1)]) C dX9_takeOff_13 (by decide) rfl ?_
    obtain ⟨n6, hm⟩ := hm
    refine xr_sub [2, 1, 0] rfl ?_
    exact k_X9_takeOff_L14 C hr hlk hnm hR n6 a0 (some a5) xp1 _ _ _ hm
  · replace hm := hm.1 q4
    subst q4
    refine xr_null C dX9_takeOff_10 ?_
    exact xr_areturn (r := none) C hr (Or.inl ⟨_, rfl⟩) hlk hm dX9_takeOff_11
set_option maxRecDepth 100000 in
set_option maxHeartbeats 4000000 in
theorem c_X10_init {l : Launch} {D : va_G} {E : Ev} (a0 : Nat) (h : Hp) (kc ks : Nat) {Q : Hp → Prop} (hm : m_X10_init E a0 h kc ks Q) : XMet l yX10_init cX10_init 1 none 5 104 kc ks D E h [.ref a0] (fun A => va_Qv Q (XPost D A) A) := by
  refine xm_of (lv0 := [(0, .ref a0)]) (by decide) (Nat.le_of_ble_eq_true rfl) rfl RX10 rfl (fun p e s m args below meth c A R hRm C hr hlk hnm => ?_)
  have hR : R.frames = 5 ∧ R.locals = 104 := by rw [hRm]; exact ⟨rfl, rfl⟩
  refine xr_aload_n (r := (some a0)) C dX10_init_0 0 rfl ?_
  refine xr_obj C wd_492 wd_1 wd_2 (by rw [hR.1]; decide) (by rw [hR.2]; exact Nat.le_of_ble_eq_true rfl) dX10_init_1 ?_
  refine xr_aload_n (r := (some a0)) C dX10_init_4 0 rfl ?_
  obtain ⟨kc5, ks6, kk2, kl2, hm⟩ := hm
  refine xr_new (ci := 10) (fs := [.null, .int 0]) C tyX9 tyX9_ok rfl inX9 wd_509 wd_510 wd_171 dvX9 kk2 kl2 dX10_init_5 (fun a3 h4 na2 eh2 => ?_)
  replace hm := hm a3 h4 na2 eh2
  refine xr_dup C dX10_init_8 rfl ?_
  obtain ⟨mc8, ms9, kc10, ks11, kk7, kl7, hm⟩ := hm
  refine xr_cINv (n := 0) (As := []) (st := [.ref a3, .ref a0]) C (c_X9_init a3 h4 mc8 ms9 hm) wn_10 wd_508 wd_171 wd_507 rfl (by decide +kernel) rfl (by rw [hR.1, hR.2]; decide) kk7 kl7 rfl (Nat.le_of_ble_eq_true rfl) dX10_init_9 (fun h13 hn => ?_)
  clear hm
  have hm := hn
  clear hn
  obtain ⟨fs14, e14, f14, h15, eh14, hm⟩ := hm
  refine xr_putF (ci := 11) (v := .ref a3) C 0 (.object "CardPayments$Wires") tyX10 tyX10_ok nmX10 e14 f14 rfl inX10 (by decide) wd_160 rfl hnm rfl (by decide) rfl rfl eh14 dX10_init_12 ?_
  refine xr_aload_n (r := (some a0)) C dX10_init_15 0 rfl ?_
  obtain ⟨kc19, ks20, kk16, kl16, hm⟩ := hm
  refine xr_new (ci := 8) (fs := [.null, .null, .int 0, .int 0, .int 0]) C tyX7 tyX7_ok rfl inX7 wd_505 wd_506 wd_30 dvX7 kk16 kl16 dX10_init_16 (fun a17 h18 na16 eh16 => ?_)
  replace hm := hm a17 h18 na16 eh16
  refine xr_dup C dX10_init_19 rfl ?_
  obtain ⟨mc22, ms23, kc24, ks25, kk21, kl21, hm⟩ := hm
  refine xr_cINv (n := 0) (As := []) (st := [.ref a17, .ref a0]) C (c_X7_init a17 h18 mc22 ms23 hm) wn_9 wd_504 wd_30 wd_503 rfl (by decide +kernel) rfl (by rw [hR.1, hR.2]; decide) kk21 kl21 rfl (Nat.le_of_ble_eq_true rfl) dX10_init_20 (fun h27 hn => ?_)
  clear hm
  have hm := hn
  clear hn
  obtain ⟨fs28, e28, f28, h29, eh28, hm⟩ := hm
  refine xr_putF (ci := 11) (v := .ref a17) C 1 (.object "CardPayments$Seals") tyX10 tyX10_ok nmX10 e28 f28 rfl inX10 (by decide) wd_493 rfl hnm rfl (by decide) rfl rfl eh28 dX10_init_23 ?_
  refine xr_aload_n (r := (some a0)) C dX10_init_26 0 rfl ?_
  obtain ⟨kc33, ks34, kk30, kl30, hm⟩ := hm
  refine xr_new (ci := 0) (fs := [.int 0, .null, .int 0]) C tyJx4a65c tyJx4a65c_ok rfl inJx4a65c wd_502 wd_295 wd_45 dvJx4a65c kk30 kl30 dX10_init_27 (fun a31 h32 na30 eh30 => ?_)
  replace hm := hm a31 h32 na30 eh30
  refine xr_dup C dX10_init_30 rfl ?_
  refine xr_cIv (n := 0) (As := []) (st := [.ref a31, .ref a0]) C (c_Jx4a65c_init_da8c8 a31 h32 0 0 hm) wd_501 wd_293 wd_45 wd_292 rfl (by decide +kernel) rfl (by rw [hR.1, hR.2]; decide) (Nat.zero_add _).symm (Nat.zero_add _).symm rfl (Nat.le_of_ble_eq_true rfl) dX10_init_31 (fun h37 hn => ?_)
  clear hm
  have hm := hn
  clear hn
  obtain ⟨fs38, e38, f38, h39, eh38, hm⟩ := hm
  refine xr_putF (ci := 11) (v := .ref a31) C 2 (.object "java/util/ArrayList") tyX10 tyX10_ok nmX10 e38 f38 rfl inX10 (by decide) wd_422 rfl hnm rfl (by decide) rfl rfl eh38 dX10_init_34 ?_
  refine xr_aload_n (r := (some a0)) C dX10_init_37 0 rfl ?_
  obtain ⟨kc43, ks44, kk40, kl40, hm⟩ := hm
  refine xr_new (ci := 0) (fs := [.int 0, .null, .int 0]) C tyJx4a65c tyJx4a65c_ok rfl inJx4a65c wd_502 wd_295 wd_45 dvJx4a65c kk40 kl40 dX10_init_38 (fun a41 h42 na40 eh40 => ?_)
  replace hm := hm a41 h42 na40 eh40
  refine xr_dup C dX10_init_41 rfl ?_
  refine xr_cIv (n := 0) (As := []) (st := [.ref a41, .ref a0]) C (c_Jx4a65c_init_da8c8 a41 h42 0 0 hm) wd_501 wd_293 wd_45 wd_292 rfl (by decide +kernel) rfl (by rw [hR.1, hR.2]; decide) (Nat.zero_add _).symm (Nat.zero_add _).symm rfl (Nat.le_of_ble_eq_true rfl) dX10_init_42 (fun h47 hn => ?_)
  clear hm
  have hm := hn
  clear hn
  obtain ⟨fs48, e48, f48, h49, eh48, hm⟩ := hm
  refine xr_putF (ci := 11) (v := .ref a41) C 3 (.object "java/util/ArrayList") tyX10 tyX10_ok nmX10 e48 f48 rfl inX10 (by decide) wd_307 rfl hnm rfl (by decide) rfl rfl eh48 dX10_init_45 ?_
  refine xr_aload_n (r := (some a0)) C dX10_init_48 0 rfl ?_
  obtain ⟨kc53, ks54, kk50, kl50, hm⟩ := hm
  refine xr_new (ci := 0) (fs := [.int 0, .null, .int 0]) C tyJx4a65c tyJx4a65c_ok rfl inJx4a65c wd_502 wd_295 wd_45 dvJx4a65c kk50 kl50 dX10_init_49 (fun a51 h52 na50 eh50 => ?_)
  replace hm := hm a51 h52 na50 eh50
  refine xr_dup C dX10_init_52 rfl ?_
  refine xr_cIv (n := 0) (As := []) (st := [.ref a51, .ref a0]) C (c_Jx4a65c_init_da8c8 a51 h52 0 0 hm) wd_501 wd_293 wd_45 wd_292 rfl (by decide +kernel) rfl (by rw [hR.1, hR.2]; decide) (Nat.zero_add _).symm (Nat.zero_add _).symm rfl (Nat.le_of_ble_eq_true rfl) dX10_init_53 (fun h57 hn => ?_)
  clear hm
  have hm := hn
  clear hn
  obtain ⟨fs58, e58, f58, h59, eh58, hm⟩ := hm
  refine xr_putF (ci := 11) (v := .ref a51) C 4 (.object "java/util/ArrayList") tyX10 tyX10_ok nmX10 e58 f58 rfl inX10 (by decide) wd_494 rfl hnm rfl (by decide) rfl rfl eh58 dX10_init_56 ?_
  refine xr_aload_n (r := (some a0)) C dX10_init_59 0 rfl ?_
  obtain ⟨kc63, ks64, kk60, kl60, hm⟩ := hm
  refine xr_new (ci := 0) (fs := [.int 0, .null, .int 0]) C tyJx4a65c tyJx4a65c_ok rfl inJx4a65c wd_502 wd_295 wd_45 dvJx4a65c kk60 kl60 dX10_init_60 (fun a61 h62 na60 eh60 => ?_)
  replace hm := hm a61 h62 na60 eh60
  refine xr_dup C dX10_init_63 rfl ?_
  refine xr_cIv (n := 0) (As := []) (st := [.ref a61, .ref a0]) C (c_Jx4a65c_init_da8c8 a61 h62 0 0 hm) wd_501 wd_293 wd_45 wd_292 rfl (by decide +kernel) rfl (by rw [hR.1, hR.2]; decide) (Nat.zero_add _).symm (Nat.zero_add _).symm rfl (Nat.le_of_ble_eq_true rfl) dX10_init_64 (fun h67 hn => ?_)
  clear hm
  have hm := hn
  clear hn
  obtain ⟨fs68, e68, f68, h69, eh68, hm⟩ := hm
  refine xr_putF (ci := 11) (v := .ref a61) C 5 (.object "java/util/ArrayList") tyX10 tyX10_ok nmX10 e68 f68 rfl inX10 (by decide) wd_495 rfl hnm rfl (by decide) rfl rfl eh68 dX10_init_67 ?_
  refine xr_aload_n (r := (some a0)) C dX10_init_70 0 rfl ?_
  obtain ⟨kc73, ks74, kk70, kl70, hm⟩ := hm
  refine xr_new (ci := 3) (fs := [.int 0, .int 0, .int 0, .null]) C tyX2 tyX2_ok rfl inX2 wd_499 wd_500 wd_220 dvX2 kk70 kl70 dX10_init_71 (fun a71 h72 na70 eh70 => ?_)
  replace hm := hm a71 h72 na70 eh70
  refine xr_dup C dX10_init_74 rfl ?_
  obtain ⟨mc76, ms77, kc78, ks79, kk75, kl75, hm⟩ := hm
  refine xr_cINv (n := 0) (As := []) (st := [.ref a71, .ref a0]) C (c_X2_init a71 h72 mc76 ms77 hm) wn_8 wd_498 wd_220 wd_497 rfl (by decide +kernel) rfl (by rw [hR.1, hR.2]; decide) kk75 kl75 rfl (Nat.le_of_ble_eq_true rfl) dX10_init_75 (fun h81 hn => ?_)
  clear hm
  have hm := hn
  clear hn
  obtain ⟨fs82, e82, f82, h83, eh82, hm⟩ := hm
  refine xr_putF (ci := 11) (v := .ref a71) C 6 (.object "CardPayments$Content") tyX10 tyX10_ok nmX10 e82 f82 rfl inX10 (by decide) wd_496 rfl hnm rfl (by decide) rfl rfl eh82 dX10_init_78 ?_
  refine xr_aload_n (r := (some a0)) C dX10_init_81 0 rfl ?_
  obtain ⟨kc87, ks88, kk84, kl84, hm⟩ := hm
  refine xr_new (ci := 3) (fs := [.int 0, .int 0, .int 0, .null]) C tyX2 tyX2_ok rfl inX2 wd_499 wd_500 wd_220 dvX2 kk84 kl84 dX10_init_82 (fun a85 h86 na84 eh84 => ?_)
  replace hm := hm a85 h86 na84 eh84
  refine xr_dup C dX10_init_85 rfl ?_
  obtain ⟨mc90, ms91, kc92, ks93, kk89, kl89, hm⟩ := hm
  refine xr_cINv (n := 0) (As := []) (st := [.ref a85, .ref a0]) C (c_X2_init a85 h86 mc90 ms91 hm) wn_8 wd_498 wd_220 wd_497 rfl (by decide +kernel) rfl (by rw [hR.1, hR.2]; decide) kk89 kl89 rfl (Nat.le_of_ble_eq_true rfl) dX10_init_86 (fun h95 hn => ?_)
  clear hm
  have hm := hn
  clear hn
  obtain ⟨fs96, e96, f96, h97, eh96, hm⟩ := hm
  refine xr_putF (ci := 11) (v := .ref a85) C 7 (.object "CardPayments$Content") tyX10 tyX10_ok nmX10 e96 f96 rfl inX10 (by decide) wd_161 rfl hnm rfl (by decide) rfl rfl eh96 dX10_init_89 ?_
  exact xr_vreturn C hr hlk hm dX10_init_92
set_option maxRecDepth 100000 in
set_option maxHeartbeats 4000000 in
theorem c_X10_isSomebody {l : Launch} {D : va_G} {E : Ev} (a0 : Nat) (xp1 : Int32) (xp2 : Int32) (h : Hp) (kc ks : Nat) {Q : Int32 → Hp → Prop} (hm : m_X10_isSomebody E a0 xp1 xp2 h kc ks Q) : XMet l yX10_isSomebody cX10_isSomebody 3 (some .boolean) 2 41 kc ks D E h [.ref a0, .int xp1, .int xp2] (fun A => va_Qi Q (XPost D A) A) := by
  refine xm_of (lv0 := [(0, .ref a0), (1, .int xp1), (2, .int xp2)]) (by decide) (Nat.le_of_ble_eq_true rfl) rfl RX10 rfl (fun p e s m args below meth c A R hRm C hr hlk hnm => ?_)
  have hR : R.frames = 2 ∧ R.locals = 41 := by rw [hRm]; exact ⟨rfl, rfl⟩
  refine xr_iload_n C dX10_isSomebody_0 1 rfl ?_
  by_cases q_0 : xp1 = 0
  · replace hm := hm.1 q_0
    refine xr_tableIn (tgt := 28) C dX10_isSomebody_1 (by rw [q_0]; decide) (by rw [q_0]; decide) (by rw [q_0] <;> rfl) (by decide) ?_
    refine xr_aload_n (r := (some a0)) C dX10_isSomebody_28 0 rfl ?_
    refine xr_iload_n C dX10_isSomebody_29 2 rfl ?_
    obtain ⟨⟨fs1, e1⟩, hm⟩ := hm
    refine xr_cVi (n := 1) (As := [.int xp2]) (st := []) C (c_X10_isCard a0 xp2 h 0 0 hm) e1 rfl wd_511 wd_436 wd_437 wd_178 wd_435 (by decide +kernel) rfl (by rw [hR.1, hR.2]; decide) (Nat.zero_add _).symm (Nat.zero_add _).symm rfl (Nat.le_of_ble_eq_true rfl) dX10_isSomebody_30 (fun x2 h3 hn => ?_)
    clear hm
    have hm := hn
    clear hn
    exact xr_zreturn C hr hlk hm.1 hm.2 dX10_isSomebody_33
  · replace hm := hm.2 q_0
    by_cases q_1 : xp1 = 1
    · replace hm := hm.1 q_1
      refine xr_tableIn (tgt := 34) C dX10_isSomebody_1 (by rw [q_1]; decide) (by rw [q_1]; decide) (by rw [q_1] <;> rfl) (by decide) ?_
      refine xr_aload_n (r := (some a0)) C dX10_isSomebody_34 0 rfl ?_
      refine xr_iload_n C dX10_isSomebody_35 2 rfl ?_
      obtain ⟨⟨fs4, e4⟩, hm⟩ := hm
      refine xr_cVi (n := 1) (As := [.int xp2]) (st := []) C (c_X10_isTerminal a0 xp2 h 0 0 hm) e4 rfl wd_512 wd_319 wd_320 wd_178 wd_318 (by decide +kernel) rfl (by rw [hR.1, hR.2]; decide) (Nat.zero_add _).symm (Nat.zero_add _).symm rfl (Nat.le_of_ble_eq_true rfl) dX10_isSomebody_36 (fun x5 h6 hn => ?_)
      clear hm
      have hm := hn
      clear hn
      exact xr_zreturn C hr hlk hm.1 hm.2 dX10_isSomebody_39
    · replace hm := hm.2 q_1
      by_cases q_2 : xp1 = 2
      · replace hm := hm.1 q_2
        refine xr_tableIn (tgt := 40) C dX10_isSomebody_1 (by rw [q_2]; decide) (by rw [q_2]; decide) (by rw [q_2] <;> rfl) (by decide) ?_
        refine xr_iload_n C dX10_isSomebody_40 2 rfl ?_
        refine xr_if_ne (tgt := 48) C dX10_isSomebody_41 (by decide) (fun q7 => ?_) (fun q7 => ?_)
        · replace hm := hm.2 q7
          refine xr_iconst (v := 0) C dX10_isSomebody_48 rfl ?_
          exact xr_zreturn C hr hlk (Or.inl rfl) hm dX10_isSomebody_49
        · replace hm := hm.1 q7
          refine xr_iconst (v := 1) C dX10_isSomebody_44 rfl ?_
          refine xr_goto (tgt := 49) C dX10_isSomebody_45 (by decide) ?_
          exact xr_zreturn C hr hlk (Or.inr rfl) hm dX10_isSomebody_49
      · replace hm := hm.2 q_2
        have z_0 := lv_neT (a := 0) q_0 rfl
        have z_1 := lv_neT (a := 1) q_1 rfl
        have z_2 := lv_neT (a := 2) q_2 rfl
        refine xr_tableOut (tgt := 50) C dX10_isSomebody_1 (by omega) (by decide) ?_
        refine xr_iconst (v := 0) C dX10_isSomebody_50 rfl ?_
        exact xr_zreturn C hr hlk (Or.inl rfl) hm dX10_isSomebody_51
set_option maxRecDepth 100000 in
set_option maxHeartbeats 4000000 in
theorem k_X10_purchasesLike_L69 {p : Program} {l : Launch} {e : Env} {R : Room} {s : State} {m : MethodId} {args : Array Value} {below : List Frame} {meth : Method} {c : Code} {D : va_G} {E : Ev} {A : Nat → Prop} {KC KS : Nat} (C : XC p R s m args c D E A 5 RX10 cX10_purchasesLike KC KS) (hr : meth.sig.returnType = (some .int)) (hlk : meth.locks = false) (hnm : meth.name = "purchasesLike") (hR : R.frames = 3 ∧ R.locals = 64) {K4 : Nat → Option Nat → Int32 → Int32 → Hp → Nat → Nat → Prop} {Q : Int32 → Hp → Prop} (hK4 : ∀ (a0 : Nat) (rv1 : Option Nat) (xv2 : Int32) (xv3 : Int32) (h : Hp) (kc ks : Nat), K4 a0 rv1 xv2 xv3 h kc ks → XW p l e R s m args below meth c (MQ below (va_Qi Q (XPost D A) A) args s KC KS A) D A KC KS 5 h kc ks [(0, .ref a0), (1, va_rf rv1), (2, .int xv2), (3, .int xv3)] 4 []) : ∀ (a0 : Nat) (rv1 : Option Nat) (xv2 : Int32) (xv3 : Int32) (h : Hp) (kc ks : Nat), m_X10_purchasesLike_L69 E a0 rv1 xv2 xv3 h kc ks K4 Q → XW p l e R s m args below meth c (MQ below (va_Qi Q (XPost D A) A) args s KC KS A) D A KC KS 5 h kc ks [(0, .ref a0), (1, va_rf rv1), (2, .int xv2), (3, .int xv3)] 69 [] := by
  intro a0 rv1 xv2 xv3 h kc ks hm
  refine xr_iinc (j := 3) (v := xv3 + 1) (lv' := [(3, .int (xv3 + 1)), (0, .ref a0), (1, va_rf rv1), (2, .int xv2)]) C dX10_purchasesLike_69 rfl rfl (by decide) rfl ?_
  refine xr_goto (tgt := 4) C dX10_purchasesLike_72 (by decide) ?_
  refine xr_sub [1, 2, 3, 0] rfl ?_
  exact hK4 a0 rv1 xv2 (xv3 + 1) _ _ _ hm
set_option maxRecDepth 100000 in
set_option maxHeartbeats 4000000 in
theorem k_X10_purchasesLike_L4 {p : Program} {l : Launch} {e : Env} {R : Room} {s : State} {m : MethodId} {args : Array Value} {below : List Frame} {meth : Method} {c : Code} {D : va_G} {E : Ev} {A : Nat → Prop} {KC KS : Nat} (C : XC p R s m args c D E A 5 RX10 cX10_purchasesLike KC KS) (hr : meth.sig.returnType = (some .int)) (hlk : meth.locks = false) (hnm : meth.name = "purchasesLike") (hR : R.frames = 3 ∧ R.locals = 64) {Q : Int32 → Hp → Prop} : ∀ (n : Nat) (a0 : Nat) (rv1 : Option Nat) (xv2 : Int32) (xv3 : Int32) (h : Hp) (kc ks : Nat), m_X10_purchasesLike_L4 n E a0 rv1 xv2 xv3 h kc ks Q → XW p l e R s m args below meth c (MQ below (va_Qi Q (XPost D A) A) args s KC KS A) D A KC KS 5 h kc ks [(0, .ref a0), (1, va_rf rv1), (2, .int xv2), (3, .int xv3)] 4 [] := by
  intro n
  induction n with
  | zero => intro a0 rv1 xv2 xv3 h kc ks hm; exact False.elim hm
  | succ n ih =>
    intro a0 rv1 xv2 xv3 h kc ks hm
    refine xr_iload_n C dX10_purchasesLike_4 3 rfl ?_
    refine xr_aload_n (r := (some a0)) C dX10_purchasesLike_5 0 rfl ?_
    obtain ⟨fs2, r3, e2, f2, hm⟩ := hm
    refine xr_get (ci := 11) C 4 e2 f2 rfl inX10 (by decide) wd_494 dX10_purchasesLike_6 ?_
    obtain ⟨a7, rfl, hm⟩ := hm
    obtain ⟨⟨fs4, e4⟩, hm⟩ := hm
    refine xr_cVi (n := 0) (As := []) (st := [.int xv3]) C (c_Jx4a65c_size_8abf5 a7 h 0 0 hm) e4 rfl wd_308 wd_113 wd_114 wd_45 wd_112 (by decide +kernel) rfl (by rw [hR.1, hR.2]; decide) (Nat.zero_add _).symm (Nat.zero_add _).symm rfl (Nat.le_of_ble_eq_true rfl) dX10_purchasesLike_9 (fun x5 h6 hn => ?_)
    clear hm
    have hm := hn
    clear hn
    refine xr_icmp_ge (tgt := 75) C dX10_purchasesLike_12 (by decide) (fun q8 => ?_) (fun q8 => ?_)
    · replace hm := hm.1 q8
      refine xr_iload_n C dX10_purchasesLike_75 2 rfl ?_
      exact xr_ireturn C hr hlk hm dX10_purchasesLike_76
    · replace hm := hm.2 q8
      refine xr_aload_n (r := (some a0)) C dX10_purchasesLike_15 0 rfl ?_
      obtain ⟨fs9, r10, e9, f9, hm⟩ := hm
      refine xr_get (ci := 11) C 4 e9 f9 rfl inX10 (by decide) wd_494 dX10_purchasesLike_16 ?_
      refine xr_iload_n C dX10_purchasesLike_19 3 rfl ?_
      obtain ⟨a14, rfl, hm⟩ := hm
      obtain ⟨⟨fs11, e11⟩, hm⟩ := hm
      refine xr_cVq (n := 1) (As := [.int xv3]) (st := []) C (c_Jx4a65c_get_915e3 a14 xv3 h6 0 0 hm) e11 rfl wd_517 wd_134 wd_135 wd_45 wd_133 (by decide +kernel) rfl (by rw [hR.1, hR.2]; decide) (Nat.zero_add _).symm (Nat.zero_add _).symm rfl (Nat.le_of_ble_eq_true rfl) dX10_purchasesLike_20 (fun r12 h13 hn => ?_)
      clear hm
      have hm := hn
      clear hn
      obtain ⟨a16, rfl, hm⟩ := hm
      obtain ⟨⟨fs15, e15⟩, hm⟩ := hm
      refine xr_cast C e15 rfl wd_516 dX10_purchasesLike_23 ?_
      refine xr_astore (r := (some a16)) (lv' := [(4, .ref a16), (0, .ref a0), (1, va_rf rv1), (2, .int xv2), (3, .int xv3)]) C dX10_purchasesLike_26 (by decide) rfl ?_
      refine xr_aload (r := (some a16)) C dX10_purchasesLike_28 0 rfl ?_
      obtain ⟨fs17, x18, e17, f17, hm⟩ := hm
      refine xr_get (ci := 6) C 4 e17 f17 rfl inX5 (by decide) wd_513 dX10_purchasesLike_30 ?_
      refine xr_aload_n (r := rv1) C dX10_purchasesLike_33 2 rfl ?_
      obtain ⟨a20, rfl, hm⟩ := hm
      obtain ⟨fs19, x21, e19, f19, hm⟩ := hm
      refine xr_get (ci := 6) C 4 e19 f19 rfl inX5 (by decide) wd_513 dX10_purchasesLike_34 ?_
      refine xr_icmp_ne (tgt := 69) C dX10_purchasesLike_37 (by decide) (fun q22 => ?_) (fun q22 => ?_)
      · replace hm := hm.2 q22
        refine xr_sub [1, 2, 3, 4] rfl ?_
        exact k_X10_purchasesLike_L69 C hr hlk hnm hR ih a0 (some a20) xv2 xv3 _ _ _ hm
      · replace hm := hm.1 q22
        refine xr_aload (r := (some a16)) C dX10_purchasesLike_40 0 rfl ?_
        obtain ⟨fs23, y24, e23, f23, hm⟩ := hm
        refine xr_get (ci := 6) C 2 e23 f23 rfl inX5 (by decide) wd_514 dX10_purchasesLike_42 ?_
        refine xr_aload_n (r := (some a20)) C dX10_purchasesLike_45 2 rfl ?_
        obtain ⟨fs25, y26, e25, f25, hm⟩ := hm
        refine xr_get (ci := 6) C 2 e25 f25 rfl inX5 (by decide) wd_514 dX10_purchasesLike_46 ?_
        refine xr_lcmp C dX10_purchasesLike_49 ?_
        refine xr_if_ne (tgt := 69) C dX10_purchasesLike_50 (by decide) (fun q27 => ?_) (fun q27 => ?_)
        · replace hm := hm.2 q27
          refine xr_sub [1, 2, 3, 4] rfl ?_
          exact k_X10_purchasesLike_L69 C hr hlk hnm hR ih a0 (some a20) xv2 xv3 _ _ _ hm
        · replace hm := hm.1 q27
          refine xr_aload (r := (some a16)) C dX10_purchasesLike_53 0 rfl ?_
          obtain ⟨fs28, y29, e28, f28, hm⟩ := hm
          refine xr_get (ci := 6) C 3 e28 f28 rfl inX5 (by decide) wd_515 dX10_purchasesLike_55 ?_
          refine xr_aload_n (r := (some a20)) C dX10_purchasesLike_58 2 rfl ?_
          obtain ⟨fs30, y31, e30, f30, hm⟩ := hm
          refine xr_get (ci := 6) C 3 e30 f30 rfl inX5 (by decide) wd_515 dX10_purchasesLike_59 ?_
          refine xr_lcmp C dX10_purchasesLike_62 ?_
          refine xr_if_ne (tgt := 69) C dX10_purchasesLike_63 (by decide) (fun q32 => ?_) (fun q32 => ?_)
          · replace hm := hm.2 q32
            refine xr_sub [1, 2, 3, 4] rfl ?_
            exact k_X10_purchasesLike_L69 C hr hlk hnm hR ih a0 (some a20) xv2 xv3 _ _ _ hm
          · replace hm := hm.1 q32
            refine xr_iinc (j := 3) (v := xv2 + 1) (lv' := [(2, .int (xv2 + 1)), (4, .ref a16), (0, .ref a0), (1, .ref a20), (3, .int xv3)]) C dX10_purchasesLike_66 rfl rfl (by decide) rfl ?_
            refine xr_sub [2, 3, 0, 4] rfl ?_
            exact k_X10_purchasesLike_L69 C hr hlk hnm hR ih a0 (some a20) (xv2 + 1) xv3 _ _ _ hm
set_option maxRecDepth 100000 in
set_option maxHeartbeats 4000000 in
theorem c_X10_purchasesLike {l : Launch} {D : va_G} {E : Ev} (a0 : Nat) (rp1 : Option Nat) (h : Hp) (kc ks : Nat) {Q : Int32 → Hp → Prop} (hm : m_X10_purchasesLike E a0 rp1 h kc ks Q) : XMet l yX10_purchasesLike cX10_purchasesLike 5 (some .int) 3 64 kc ks D E h [.ref a0, va_rf rp1] (fun A => va_Qi Q (XPost D A) A) := by
  refine xm_of (lv0 := [(0, .ref a0), (1, va_rf rp1)]) (by decide) (by simp [lg_sl, xv_cat, xv_ci, xv_cl, xv_cr, xv_cn]) (by simp [lv_args, xv_cat, xv_ci, xv_cl, xv_cr, xv_cn]) RX10 rfl (fun p e s m args below meth c A R hRm C hr hlk hnm => ?_)
  have hR : R.frames = 3 ∧ R.locals = 64 := by rw [hRm]; exact ⟨rfl, rfl⟩
  refine xr_iconst (v := 0) C dX10_purchasesLike_0 rfl ?_
  refine xr_istore_n (lv' := [(2, .int 0), (0, .ref a0), (1, va_rf rp1)]) C dX10_purchasesLike_1 (by decide) (by simp [xv_put1, xv_cat, xv_ci, xv_cl, xv_cr, xv_cn] <;> decide) ?_
  refine xr_iconst (v := 0) C dX10_purchasesLike_2 rfl ?_
  refine xr_istore_n (lv' := [(3, .int 0), (2, .int 0), (0, .ref a0), (1, va_rf rp1)]) C dX10_purchasesLike_3 (by decide) rfl ?_
  obtain ⟨n1, hm⟩ := hm
  refine xr_sub [2, 3, 1, 0] rfl ?_
  exact k_X10_purchasesLike_L4 C hr hlk hnm hR n1 a0 rp1 0 0 _ _ _ hm
set_option maxRecDepth 100000 in
set_option maxHeartbeats 4000000 in
theorem k_X10_wasAnswered_L106 {p : Program} {l : Launch} {e : Env} {R : Room} {s : State} {m : MethodId} {args : Array Value} {below : List Frame} {meth : Method} {c : Code} {D : va_G} {E : Ev} {A : Nat → Prop} {KC KS : Nat} (C : XC p R s m args c D E A 4 RX10 cX10_wasAnswered KC KS) (hr : meth.sig.returnType = (some .boolean)) (hlk : meth.locks = false) (hnm : meth.name = "wasAnswered") (hR : R.frames = 3 ∧ R.locals = 64) {K2 : Nat → Option Nat → Int32 → Hp → Nat → Nat → Prop} {Q : Int32 → Hp → Prop} (hK2 : ∀ (a0 : Nat) (rv1 : Option Nat) (xv2 : Int32) (h : Hp) (kc ks : Nat), K2 a0 rv1 xv2 h kc ks → XW p l e R s m args below meth c (MQ below (va_Qi Q (XPost D A) A) args s KC KS A) D A KC KS 4 h kc ks [(0, .ref a0), (1, va_rf rv1), (2, .int xv2)] 2 []) : ∀ (a0 : Nat) (rv1 : Option Nat) (xv2 : Int32) (h : Hp) (kc ks : Nat), m_X10_wasAnswered_L106 E a0 rv1 xv2 h kc ks K2 Q → XW p l e R s m args below meth c (MQ below (va_Qi Q (XPost D A) A) args s KC KS A) D A KC KS 4 h kc ks [(0, .ref a0), (1, va_rf rv1), (2, .int xv2)] 106 [] := by
  intro a0 rv1 xv2 h kc ks hm
  refine xr_iinc (j := 2) (v := xv2 + 1) (lv' := [(2, .int (xv2 + 1)), (0, .ref a0), (1, va_rf rv1)]) C dX10_wasAnswered_106 rfl rfl (by decide) (by simp [xv_put1, xv_cat, xv_ci, xv_cl, xv_cr, xv_cn] <;> decide) ?_
  refine xr_goto (tgt := 2) C dX10_wasAnswered_109 (by decide) ?_
  refine xr_sub [1, 2, 0] rfl ?_
  exact hK2 a0 rv1 (xv2 + 1) _ _ _ hm
set_option maxRecDepth 100000 in
set_option maxHeartbeats 4000000 in
theorem k_X10_wasAnswered_L2 {p : Program} {l : Launch} {e : Env} {R : Room} {s : State} {m : MethodId} {args : Array Value} {below : List Frame} {meth : Method} {c : Code} {D : va_G} {E : Ev} {A : Nat → Prop} {KC KS : Nat} (C : XC p R s m args c D E A 4 RX10 cX10_wasAnswered KC KS) (hr : meth.sig.returnType = (some .boolean)) (hlk : meth.locks = false) (hnm : meth.name = "wasAnswered") (hR : R.frames = 3 ∧ R.locals = 64) {Q : Int32 → Hp → Prop} : ∀ (n : Nat) (a0 : Nat) (rv1 : Option Nat) (xv2 : Int32) (h : Hp) (kc ks : Nat), m_X10_wasAnswered_L2 n E a0 rv1 xv2 h kc ks Q → XW p l e R s m args below meth c (MQ below (va_Qi Q (XPost D A) A) args s KC KS A) D A KC KS 4 h kc ks [(0, .ref a0), (1, va_rf rv1), (2, .int xv2)] 2 [] := by
  intro n
  induction n with
  | zero => intro a0 rv1 xv2 h kc ks hm; exact False.elim hm
  | succ n ih =>
    intro a0 rv1 xv2 h kc ks hm
    refine xr_iload_n C dX10_wasAnswered_2 2 rfl ?_
    refine xr_aload_n (r := (some a0)) C dX10_wasAnswered_3 0 rfl ?_
    obtain ⟨fs2, r3, e2, f2, hm⟩ := hm
    refine xr_get (ci := 11) C 5 e2 f2 rfl inX10 (by decide) wd_495 dX10_wasAnswered_4 ?_
    obtain ⟨a7, rfl, hm⟩ := hm
    obtain ⟨⟨fs4, e4⟩, hm⟩ := hm
    refine xr_cVi (n := 0) (As := []) (st := [.int xv2]) C (c_Jx4a65c_size_8abf5 a7 h 0 0 hm) e4 rfl wd_308 wd_113 wd_114 wd_45 wd_112 (by decide +kernel) rfl (by rw [hR.1, hR.2]; decide) (Nat.zero_add _).symm (Nat.zero_add _).symm rfl (Nat.le_of_ble_eq_true rfl) dX10_wasAnswered_7 (fun x5 h6 hn => ?_)
    clear hm
    have hm := hn
    clear hn
    refine xr_icmp_ge (tgt := 112) C dX10_wasAnswered_10 (by decide) (fun q8 => ?_) (fun q8 => ?_)
    · replace hm := hm.1 q8
      refine xr_iconst (v := 0) C dX10_wasAnswered_112 rfl ?_
      exact xr_zreturn C hr hlk (Or.inl rfl) hm dX10_wasAnswered_113
    · replace hm := hm.2 q8
      refine xr_aload_n (r := (some a0)) C dX10_wasAnswered_13 0 rfl ?_
      obtain ⟨fs9, r10, e9, f9, hm⟩ := hm
      refine xr_get (ci := 11) C 5 e9 f9 rfl inX10 (by decide) wd_495 dX10_wasAnswered_14 ?_
      refine xr_iload_n C dX10_wasAnswered_17 2 rfl ?_
      obtain ⟨a14, rfl, hm⟩ := hm
      obtain ⟨⟨fs11, e11⟩, hm⟩ := hm
      refine xr_cVq (n := 1) (As := [.int xv2]) (st := []) C (c_Jx4a65c_get_915e3 a14 xv2 h6 0 0 hm) e11 rfl wd_517 wd_134 wd_135 wd_45 wd_133 (by decide +kernel) rfl (by rw [hR.1, hR.2]; decide) (Nat.zero_add _).symm (Nat.zero_add _).symm rfl (Nat.le_of_ble_eq_true rfl) dX10_wasAnswered_18 (fun r12 h13 hn => ?_)
      clear hm
      have hm := hn
      clear hn
      obtain ⟨a16, rfl, hm⟩ := hm
      obtain ⟨⟨fs15, e15⟩, hm⟩ := hm
      refine xr_cast C e15 rfl wd_516 dX10_wasAnswered_21 ?_
      refine xr_astore_n (r := (some a16)) (lv' := [(3, .ref a16), (0, .ref a0), (1, va_rf rv1), (2, .int xv2)]) C dX10_wasAnswered_24 (by decide) rfl ?_
      refine xr_aload_n (r := (some a16)) C dX10_wasAnswered_25 0 rfl ?_
      obtain ⟨fs17, x18, e17, f17, hm⟩ := hm
      refine xr_get (ci := 6) C 0 e17 f17 rfl inX5 (by decide) wd_518 dX10_wasAnswered_26 ?_
      refine xr_aload_n (r := rv1) C dX10_wasAnswered_29 2 rfl ?_
      obtain ⟨a20, rfl, hm⟩ := hm
      obtain ⟨fs19, x21, e19, f19, hm⟩ := hm
      refine xr_get (ci := 6) C 0 e19 f19 rfl inX5 (by decide) wd_518 dX10_wasAnswered_30 ?_
      refine xr_icmp_ne (tgt := 106) C dX10_wasAnswered_33 (by decide) (fun q22 => ?_) (fun q22 => ?_)
      · replace hm := hm.2 q22
        refine xr_sub [1, 2, 3] rfl ?_
        exact k_X10_wasAnswered_L106 C hr hlk hnm hR ih a0 (some a20) xv2 _ _ _ hm
      · replace hm := hm.1 q22
        refine xr_aload_n (r := (some a16)) C dX10_wasAnswered_36 0 rfl ?_
        obtain ⟨fs23, x24, e23, f23, hm⟩ := hm
        refine xr_get (ci := 6) C 1 e23 f23 rfl inX5 (by decide) wd_519 dX10_wasAnswered_37 ?_
        refine xr_aload_n (r := (some a20)) C dX10_wasAnswered_40 2 rfl ?_
        obtain ⟨fs25, x26, e25, f25, hm⟩ := hm
        refine xr_get (ci := 6) C 1 e25 f25 rfl inX5 (by decide) wd_519 dX10_wasAnswered_41 ?_
        refine xr_icmp_ne (tgt := 106) C dX10_wasAnswered_44 (by decide) (fun q27 => ?_) (fun q27 => ?_)
        · replace hm := hm.2 q27
          refine xr_sub [1, 2, 3] rfl ?_
          exact k_X10_wasAnswered_L106 C hr hlk hnm hR ih a0 (some a20) xv2 _ _ _ hm
        · replace hm := hm.1 q27
          refine xr_aload_n (r := (some a16)) C dX10_wasAnswered_47 0 rfl ?_
          obtain ⟨fs28, y29, e28, f28, hm⟩ := hm
          refine xr_get (ci := 6) C 2 e28 f28 rfl inX5 (by decide) wd_514 dX10_wasAnswered_48 ?_
          refine xr_aload_n (r := (some a20)) C dX10_wasAnswered_51 2 rfl ?_
          obtain ⟨fs30, y31, e30, f30, hm⟩ := hm
          refine xr_get (ci := 6) C 2 e30 f30 rfl inX5 (by decide) wd_514 dX10_wasAnswered_52 ?_
          refine xr_lcmp C dX10_wasAnswered_55 ?_
          refine xr_if_ne (tgt := 106) C dX10_wasAnswered_56 (by decide) (fun q32 => ?_) (fun q32 => ?_)
          · replace hm := hm.2 q32
            refine xr_sub [1, 2, 3] rfl ?_
            exact k_X10_wasAnswered_L106 C hr hlk hnm hR ih a0 (some a20) xv2 _ _ _ hm
          · replace hm := hm.1 q32
            refine xr_aload_n (r := (some a16)) C dX10_wasAnswered_59 0 rfl ?_
            obtain ⟨fs33, y34, e33, f33, hm⟩ := hm
            refine xr_get (ci := 6) C 3 e33 f33 rfl inX5 (by decide) wd_515 dX10_wasAnswered_60 ?_
            refine xr_aload_n (r := (some a20)) C dX10_wasAnswered_63 2 rfl ?_
            obtain ⟨fs35, y36, e35, f35, hm⟩ := hm
            refine xr_get (ci := 6) C 3 e35 f35 rfl inX5 (by decide) wd_515 dX10_wasAnswered_64 ?_
            refine xr_lcmp C dX10_wasAnswered_67 ?_
            refine xr_if_ne (tgt := 106) C dX10_wasAnswered_68 (by decide) (fun q37 => ?_) (fun q37 => ?_)
            · replace hm := hm.2 q37
              refine xr_sub [1, 2, 3] rfl ?_
              exact k_X10_wasAnswered_L106 C hr hlk hnm hR ih a0 (some a20) xv2 _ _ _ hm
            · replace hm := hm.1 q37
              refine xr_aload_n (r := (some a16)) C dX10_wasAnswered_71 0 rfl ?_
              obtain ⟨fs38, x39, e38, f38, hm⟩ := hm
              refine xr_get (ci := 6) C 4 e38 f38 rfl inX5 (by decide) wd_513 dX10_wasAnswered_72 ?_
              refine xr_aload_n (r := (some a20)) C dX10_wasAnswered_75 2 rfl ?_
              obtain ⟨fs40, x41, e40, f40, hm⟩ := hm
              refine xr_get (ci := 6) C 4 e40 f40 rfl inX5 (by decide) wd_513 dX10_wasAnswered_76 ?_
              refine xr_icmp_ne (tgt := 106) C dX10_wasAnswered_79 (by decide) (fun q42 => ?_) (fun q42 => ?_)
              · replace hm := hm.2 q42
                refine xr_sub [1, 2, 3] rfl ?_
                exact k_X10_wasAnswered_L106 C hr hlk hnm hR ih a0 (some a20) xv2 _ _ _ hm
              · replace hm := hm.1 q42
                refine xr_aload_n (r := (some a16)) C dX10_wasAnswered_82 0 rfl ?_
                obtain ⟨fs43, x44, e43, f43, hm⟩ := hm
                refine xr_get (ci := 6) C 5 e43 f43 rfl inX5 (by decide) wd_520 dX10_wasAnswered_83 ?_
                refine xr_aload_n (r := (some a20)) C dX10_wasAnswered_86 2 rfl ?_
                obtain ⟨fs45, x46, e45, f45, hm⟩ := hm
                refine xr_get (ci := 6) C 5 e45 f45 rfl inX5 (by decide) wd_520 dX10_wasAnswered_87 ?_
                refine xr_icmp_ne (tgt := 106) C dX10_wasAnswered_90 (by decide) (fun q47 => ?_) (fun q47 => ?_)
                · replace hm := hm.2 q47
                  refine xr_sub [1, 2, 3] rfl ?_
                  exact k_X10_wasAnswered_L106 C hr hlk hnm hR ih a0 (some a20) xv2 _ _ _ hm
                · replace hm := hm.1 q47
                  refine xr_aload_n (r := (some a16)) C dX10_wasAnswered_93 0 rfl ?_
                  obtain ⟨fs48, x49, e48, f48, hm⟩ := hm
                  refine xr_get (ci := 6) C 6 e48 f48 rfl inX5 (by decide) wd_521 dX10_wasAnswered_94 ?_
                  refine xr_aload_n (r := (some a20)) C dX10_wasAnswered_97 2 rfl ?_
                  obtain ⟨fs50, x51, e50, f50, hm⟩ := hm
                  refine xr_get (ci := 6) C 6 e50 f50 rfl inX5 (by decide) wd_521 dX10_wasAnswered_98 ?_
                  refine xr_icmp_ne (tgt := 106) C dX10_wasAnswered_101 (by decide) (fun q52 => ?_) (fun q52 => ?_)
                  · replace hm := hm.2 q52
                    refine xr_sub [1, 2, 3] rfl ?_
                    exact k_X10_wasAnswered_L106 C hr hlk hnm hR ih a0 (some a20) xv2 _ _ _ hm
                  · replace hm := hm.1 q52
                    refine xr_iconst (v := 1) C dX10_wasAnswered_104 rfl ?_
                    exact xr_zreturn C hr hlk (Or.inr rfl) hm dX10_wasAnswered_105
set_option maxRecDepth 100000 in
set_option maxHeartbeats 4000000 in
theorem c_X10_wasAnswered {l : Launch} {D : va_G} {E : Ev} (a0 : Nat) (rp1 : Option Nat) (h : Hp) (kc ks : Nat) {Q : Int32 → Hp → Prop} (hm : m_X10_wasAnswered E a0 rp1 h kc ks Q) : XMet l yX10_wasAnswered cX10_wasAnswered 4 (some .boolean) 3 64 kc ks D E h [.ref a0, va_rf rp1] (fun A => va_Qi Q (XPost D A) A) := by
  refine xm_of (lv0 := [(0, .ref a0), (1, va_rf rp1)]) (by decide) (by simp [lg_sl, xv_cat, xv_ci, xv_cl, xv_cr, xv_cn]) (by simp [lv_args, xv_cat, xv_ci, xv_cl, xv_cr, xv_cn]) RX10 rfl (fun p e s m args below meth c A R hRm C hr hlk hnm => ?_)
  have hR : R.frames = 3 ∧ R.locals = 64 := by rw [hRm]; exact ⟨rfl, rfl⟩
  refine xr_iconst (v := 0) C dX10_wasAnswered_0 rfl ?_
  refine xr_istore_n (lv' := [(2, .int 0), (0, .ref a0), (1, va_rf rp1)]) C dX10_wasAnswered_1 (by decide) (by simp [xv_put1, xv_cat, xv_ci, xv_cl, xv_cr, xv_cn] <;> decide) ?_
  obtain ⟨n1, hm⟩ := hm
  refine xr_sub [1, 2, 0] rfl ?_
  exact k_X10_wasAnswered_L2 C hr hlk hnm hR n1 a0 rp1 0 _ _ _ hm
set_option maxRecDepth 100000 in
set_option maxHeartbeats 4000000 in
theorem c_X11_init {l : Launch} {D : va_G} {E : Ev} (a0 : Nat) (h : Hp) (kc ks : Nat) {Q : Hp → Prop} (hm : m_X11_init E a0 h kc ks Q) : XMet l yX11_init cX11_init 1 none 6 124 kc ks D E h [.ref a0] (fun A => va_Qv Q (XPost D A) A) := by
  refine xm_of (lv0 := [(0, .ref a0)]) (by decide) (Nat.le_of_ble_eq_true rfl) rfl RX11 rfl (fun p e s m args below meth c A R hRm C hr hlk hnm => ?_)
  have hR : R.frames = 6 ∧ R.locals = 124 := by rw [hRm]; exact ⟨rfl, rfl⟩
  refine xr_aload_n (r := (some a0)) C dX11_init_0 0 rfl ?_
  refine xr_obj C wd_522 wd_1 wd_2 (by rw [hR.1]; decide) (by rw [hR.2]; exact Nat.le_of_ble_eq_true rfl) dX11_init_1 ?_
  refine xr_aload_n (r := (some a0)) C dX11_init_4 0 rfl ?_
  obtain ⟨kc5, ks6, kk2, kl2, hm⟩ := hm
  refine xr_new (ci := 11) (fs := [.null, .null, .null, .null, .null, .null, .null, .null]) C tyX10 tyX10_ok rfl inX10 wd_534 wd_535 wd_178 dvX10 kk2 kl2 dX11_init_5 (fun a3 h4 na2 eh2 => ?_)
  replace hm := hm a3 h4 na2 eh2
  refine xr_dup C dX11_init_8 rfl ?_
  obtain ⟨mc8, ms9, kc10, ks11, kk7, kl7, hm⟩ := hm
  refine xr_cINv (n := 0) (As := []) (st := [.ref a3, .ref a0]) C (c_X10_init a3 h4 mc8 ms9 hm) wn_11 wd_533 wd_178 wd_532 rfl (by decide +kernel) rfl (by rw [hR.1, hR.2]; decide) kk7 kl7 rfl (Nat.le_of_ble_eq_true rfl) dX11_init_9 (fun h13 hn => ?_)
  clear hm
  have hm := hn
  clear hn
  obtain ⟨fs14, e14, f14, h15, eh14, hm⟩ := hm
  refine xr_putF (ci := 12) (v := .ref a3) C 0 (.object "CardPayments$World") tyX11 tyX11_ok nmX11 e14 f14 rfl inX11 (by decide) wd_523 rfl hnm rfl (by decide) rfl rfl eh14 dX11_init_12 ?_
  refine xr_aload_n (r := (some a0)) C dX11_init_15 0 rfl ?_
  obtain ⟨kc19, ks20, kk16, kl16, hm⟩ := hm
  refine xr_new (ci := 4) (fs := [.null, .null, .null]) C tyX3 tyX3_ok rfl inX3 wd_530 wd_531 wd_330 dvX3 kk16 kl16 dX11_init_16 (fun a17 h18 na16 eh16 => ?_)
  replace hm := hm a17 h18 na16 eh16
  refine xr_dup C dX11_init_19 rfl ?_
  refine xr_aload_n (r := (some a0)) C dX11_init_20 0 rfl ?_
  obtain ⟨fs21, r22, e21, f21, hm⟩ := hm
  refine xr_get (ci := 12) C 0 e21 f21 rfl inX11 (by decide) wd_523 dX11_init_21 ?_
  obtain ⟨mc24, ms25, kc26, ks27, kk23, kl23, hm⟩ := hm
  refine xr_cIv (n := 1) (As := [va_rf r22]) (st := [.ref a17, .ref a0]) C (c_X3_init a17 r22 h18 mc24 ms25 hm) wd_527 wd_529 wd_330 wd_528 rfl (by decide +kernel) rfl (by rw [hR.1, hR.2]; decide) kk23 kl23 rfl (Nat.le_of_ble_eq_true rfl) dX11_init_24 (fun h29 hn => ?_)
  clear hm
  have hm := hn
  clear hn
  obtain ⟨fs30, e30, f30, h31, eh30, hm⟩ := hm
  refine xr_putF (ci := 12) (v := .ref a17) C 1 (.object "CardPayments$Host") tyX11 tyX11_ok nmX11 e30 f30 rfl inX11 (by decide) wd_524 rfl hnm rfl (by decide) rfl rfl eh30 dX11_init_27 ?_
  refine xr_aload_n (r := (some a0)) C dX11_init_30 0 rfl ?_
  refine xr_bipush (v := 64) C dX11_init_31 rfl ?_
  obtain ⟨N32, kc35, ks36, b32, c32, z32, kk32, kl32, hm⟩ := hm
  refine xr_newa_int C 0 rfl wd_138 b32 c32 z32 kk32 kl32 dX11_init_33 (fun a33 h34 na32 eh32 => ?_)
  replace hm := hm a33 h34 na32 eh32
  obtain ⟨fs37, e37, f37, h38, eh37, hm⟩ := hm
  refine xr_putF (ci := 12) (v := .ref a33) C 2 (.array .int) tyX11 tyX11_ok nmX11 e37 f37 rfl inX11 (by decide) wd_525 rfl hnm rfl (by decide) rfl rfl eh37 dX11_init_35 ?_
  refine xr_aload_n (r := (some a0)) C dX11_init_38 0 rfl ?_
  refine xr_iconst (v := 0) C dX11_init_39 rfl ?_
  obtain ⟨fs39, e39, f39, h40, eh39, hm⟩ := hm
  refine xr_put (ci := 12) (v := .int 0) C 3 .int tyX11 tyX11_ok nmX11 e39 f39 rfl inX11 (by decide) wd_526 rfl (by decide) rfl rfl eh39 dX11_init_40 ?_
  exact xr_vreturn C hr hlk hm dX11_init_43
set_option maxRecDepth 100000 in
set_option maxHeartbeats 4000000 in
theorem c_X11_isWithin {l : Launch} {D : va_G} {E : Ev} (yp0 : Int64) (yp2 : Int64) (yp4 : Int64) (h : Hp) (kc ks : Nat) {Q : Int32 → Hp → Prop} (hm : m_X11_isWithin E yp0 yp2 yp4 h kc ks Q) : XMet l yX11_isWithin cX11_isWithin 6 (some .boolean) 0 0 kc ks D E h [.long yp0, .long yp2, .long yp4] (fun A => va_Qi Q (XPost D A) A) := by
  refine xm_of (lv0 := [(0, .long yp0), (2, .long yp2), (4, .long yp4)]) (by decide) (Nat.le_of_ble_eq_true rfl) rfl RX11 rfl (fun p e s m args below meth c A R hRm C hr hlk hnm => ?_)
  have hR : R.frames = 0 ∧ R.locals = 0 := by rw [hRm]; exact ⟨rfl, rfl⟩
  refine xr_lload_n C dX11_isWithin_0 0 rfl ?_
  refine xr_lload_n C dX11_isWithin_1 1 rfl ?_
  refine xr_lcmp C dX11_isWithin_2 ?_
  refine xr_if_lt (tgt := 17) C dX11_isWithin_3 (by decide) (fun q1 => ?_) (fun q1 => ?_)
  · replace hm := hm.1 q1
    refine xr_iconst (v := 0) C dX11_isWithin_17 rfl ?_
    exact xr_zreturn C hr hlk (Or.inl rfl) hm dX11_isWithin_18
  · replace hm := hm.2 q1
    refine xr_lload_n C dX11_isWithin_6 0 rfl ?_
    refine xr_lload C dX11_isWithin_7 2 rfl ?_
    refine xr_lcmp C dX11_isWithin_9 ?_
    refine xr_if_gt (tgt := 17) C dX11_isWithin_10 (by decide) (fun q2 => ?_) (fun q2 => ?_)
    · replace hm := hm.1 q2
      refine xr_iconst (v := 0) C dX11_isWithin_17 rfl ?_
      exact xr_zreturn C hr hlk (Or.inl rfl) hm dX11_isWithin_18
    · replace hm := hm.2 q2
      refine xr_iconst (v := 1) C dX11_isWithin_13 rfl ?_
      refine xr_goto (tgt := 18) C dX11_isWithin_14 (by decide) ?_
      exact xr_zreturn C hr hlk (Or.inr rfl) hm dX11_isWithin_18
set_option maxRecDepth 100000 in
set_option maxHeartbeats 4000000 in
theorem c_X11_card {l : Launch} {D : va_G} {E : Ev} (a0 : Nat) (xp1 : Int32) (yp2 : Int64) (xp4 : Int32) (yp5 : Int64) (h : Hp) (kc ks : Nat) {Q : Int32 → Hp → Prop} (hm : m_X11_card E a0 xp1 yp2 xp4 yp5 h kc ks Q) : XMet l yX11_card cX11_card 8 (some .int) 7 191 kc ks D E h [.ref a0, .int xp1, .long yp2, .int xp4, .long yp5] (fun A => va_Qi Q (XPost D A) A) := by
  refine xm_of (lv0 := [(0, .ref a0), (1, .int xp1), (2, .long yp2), (4, .int xp4), (5, .long yp5)]) (by decide) (Nat.le_of_ble_eq_true rfl) rfl RX11 rfl (fun p e s m args below meth c A R hRm C hr hlk hnm => ?_)
  have hR : R.frames = 7 ∧ R.locals = 191 := by rw [hRm]; exact ⟨rfl, rfl⟩
  refine xr_aload_n (r := (some a0)) C dX11_card_0 0 rfl ?_
  obtain ⟨fs1, r2, e1, f1, hm⟩ := hm
  refine xr_get (ci := 12) C 0 e1 f1 rfl inX11 (by decide) wd_523 dX11_card_1 ?_
  obtain ⟨a4, rfl, hm⟩ := hm
  obtain ⟨fs3, r5, e3, f3, hm⟩ := hm
  refine xr_get (ci := 11) C 2 e3 f3 rfl inX10 (by decide) wd_536 dX11_card_4 ?_
  obtain ⟨a9, rfl, hm⟩ := hm
  obtain ⟨⟨fs6, e6⟩, hm⟩ := hm
  refine xr_cVi (n := 0) (As := []) (st := []) C (c_Jx4a65c_size_8abf5 a9 h 0 0 hm) e6 rfl wd_558 wd_113 wd_114 wd_45 wd_112 (by decide +kernel) rfl (by rw [hR.1, hR.2]; decide) (Nat.zero_add _).symm (Nat.zero_add _).symm rfl (Nat.le_of_ble_eq_true rfl) dX11_card_7 (fun x7 h8 hn => ?_)
  clear hm
  have hm := hn
  clear hn
  refine xr_istore (lv' := [(7, .int x7), (0, .ref a0), (1, .int xp1), (2, .long yp2), (4, .int xp4), (5, .long yp5)]) C dX11_card_10 (by decide) rfl ?_
  refine xr_iload C dX11_card_12 0 rfl ?_
  refine xr_bipush (v := 16) C dX11_card_14 rfl ?_
  refine xr_icmp_ge (tgt := 42) C dX11_card_16 (by decide) (fun q10 => ?_) (fun q10 => ?_)
  · replace hm := hm.1 q10
    refine xr_iconst (v := (-1)) C dX11_card_42 rfl ?_
    exact xr_ireturn C hr hlk hm dX11_card_43
  · replace hm := hm.2 q10
    refine xr_iload_n C dX11_card_19 2 rfl ?_
    refine xr_i2l (v := xp1.toInt64) C dX11_card_20 rfl ?_
    refine xr_lconst (v := 0) C dX11_card_21 rfl ?_
    refine xr_ldc2 (v := 9999) C dX11_card_22 wd_537 ?_
    refine xr_cSi (n := 3) (As := [.long xp1.toInt64, .long 0, .long 9999]) (st := []) C (c_X11_isWithin xp1.toInt64 0 9999 h8 0 0 hm) wd_554 wd_556 wd_557 wd_555 (by decide +kernel) rfl (by rw [hR.1, hR.2]; decide) (Nat.zero_add _).symm (Nat.zero_add _).symm rfl (Nat.le_of_ble_eq_true rfl) dX11_card_25 (fun x12 h13 hn => ?_)
    clear hm
    have hm := hn
    clear hn
    refine xr_if_eq (tgt := 42) C dX11_card_28 (by decide) (fun q14 => ?_) (fun q14 => ?_)
    · replace hm := hm.1 q14
      refine xr_iconst (v := (-1)) C dX11_card_42 rfl ?_
      exact xr_ireturn C hr hlk hm dX11_card_43
    · replace hm := hm.2 q14
      refine xr_lload_n C dX11_card_31 3 rfl ?_
      refine xr_lconst (v := 0) C dX11_card_32 rfl ?_
      refine xr_ldc2 (v := 1000000000) C dX11_card_33 wd_538 ?_
      refine xr_cSi (n := 3) (As := [.long yp2, .long 0, .long 1000000000]) (st := []) C (c_X11_isWithin yp2 0 1000000000 h13 0 0 hm) wd_554 wd_556 wd_557 wd_555 (by decide +kernel) rfl (by rw [hR.1, hR.2]; decide) (Nat.zero_add _).symm (Nat.zero_add _).symm rfl (Nat.le_of_ble_eq_true rfl) dX11_card_36 (fun x16 h17 hn => ?_)
      clear hm
      have hm := hn
      clear hn
      refine xr_if_ne (tgt := 44) C dX11_card_39 (by decide) (fun q18 => ?_) (fun q18 => ?_)
      · replace hm := hm.2 q18
        refine xr_iload C dX11_card_44 4 rfl ?_
        refine xr_i2l (v := xp4.toInt64) C dX11_card_46 rfl ?_
        refine xr_lconst (v := 0) C dX11_card_47 rfl ?_
        refine xr_ldc2 (v := 9) C dX11_card_48 wd_539 ?_
        refine xr_cSi (n := 3) (As := [.long xp4.toInt64, .long 0, .long 9]) (st := []) C (c_X11_isWithin xp4.toInt64 0 9 h17 0 0 hm) wd_554 wd_556 wd_557 wd_555 (by decide +kernel) rfl (by rw [hR.1, hR.2]; decide) (Nat.zero_add _).symm (Nat.zero_add _).symm rfl (Nat.le_of_ble_eq_true rfl) dX11_card_51 (fun x20 h21 hn => ?_)
        clear hm
        have hm := hn
        clear hn
        refine xr_if_eq (tgt := 69) C dX11_card_54 (by decide) (fun q22 => ?_) (fun q22 => ?_)
        · replace hm := hm.1 q22
          refine xr_iconst (v := (-1)) C dX11_card_69 rfl ?_
          exact xr_ireturn C hr hlk hm dX11_card_70
        · replace hm := hm.2 q22
          refine xr_lload C dX11_card_57 5 rfl ?_
          refine xr_lconst (v := 0) C dX11_card_59 rfl ?_
          refine xr_ldc2 (v := 1000000000000) C dX11_card_60 wd_540 ?_
          refine xr_cSi (n := 3) (As := [.long yp5, .long 0, .long 1000000000000]) (st := []) C (c_X11_isWithin yp5 0 1000000000000 h21 0 0 hm) wd_554 wd_556 wd_557 wd_555 (by decide +kernel) rfl (by rw [hR.1, hR.2]; decide) (Nat.zero_add _).symm (Nat.zero_add _).symm rfl (Nat.le_of_ble_eq_true rfl) dX11_card_63 (fun x24 h25 hn => ?_)
          clear hm
          have hm := hn
          clear hn
          refine xr_if_ne (tgt := 71) C dX11_card_66 (by decide) (fun q26 => ?_) (fun q26 => ?_)
          · replace hm := hm.2 q26
            refine xr_aload_n (r := (some a0)) C dX11_card_71 1 rfl ?_
            obtain ⟨fs27, r28, e27, f27, hm⟩ := hm
            refine xr_get (ci := 12) C 0 e27 f27 rfl inX11 (by decide) wd_523 dX11_card_72 ?_
            obtain ⟨a30, rfl, hm⟩ := hm
            obtain ⟨fs29, r31, e29, f29, hm⟩ := hm
            refine xr_get (ci := 11) C 2 e29 f29 rfl inX10 (by decide) wd_536 dX11_card_75 ?_
            obtain ⟨kc35, ks36, kk32, kl32, hm⟩ := hm
            refine xr_new (ci := 2) (fs := [.null, .int 0, .int 0, .long 0, .int 0, .int 0, .int 0, .int 0, .int 0, .int 0, .int 0, .null]) C tyX1 tyX1_ok rfl inX1 wd_552 wd_553 wd_188 dvX1 kk32 kl32 dX11_card_78 (fun a33 h34 na32 eh32 => ?_)
            replace hm := hm a33 h34 na32 eh32
            refine xr_dup C dX11_card_81 rfl ?_
            refine xr_aload_n (r := (some a0)) C dX11_card_82 1 rfl ?_
            obtain ⟨fs37, r38, e37, f37, hm⟩ := hm
            refine xr_get (ci := 12) C 0 e37 f37 rfl inX11 (by decide) wd_523 dX11_card_83 ?_
            refine xr_iload C dX11_card_86 0 rfl ?_
            refine xr_iload_n C dX11_card_88 2 rfl ?_
            refine xr_lload_n C dX11_card_89 3 rfl ?_
            refine xr_iload C dX11_card_90 4 rfl ?_
            obtain ⟨mc40, ms41, kc42, ks43, kk39, kl39, hm⟩ := hm
            refine xr_cIv (n := 5) (As := [va_rf r38, .int x7, .int xp1, .long yp2, .int xp4]) (st := [.ref a33, va_rf r31]) C (c_X1_init a33 r38 x7 xp1 yp2 xp4 h34 mc40 ms41 hm) wd_549 wd_551 wd_188 wd_550 rfl (by decide +kernel) rfl (by rw [hR.1, hR.2]; decide) kk39 kl39 rfl (by simp [xv_cat, xv_ci, xv_cl, xv_cr, xv_cn]) dX11_card_92 (fun h45 hn => ?_)
            clear hm
            have hm := hn
            clear hn
            obtain ⟨a53, rfl, hm⟩ := hm
            obtain ⟨⟨fs46, e46⟩, hm⟩ := hm
            obtain ⟨mc47, ms48, kc49, ks50, kk46, kl46, hm⟩ := hm
            refine xr_cVi (n := 1) (As := [.ref a33]) (st := []) C (c_Jx4a65c_add_9ea2d a53 (some a33) h45 mc47 ms48 hm) e46 rfl wd_542 wd_117 wd_118 wd_45 wd_116 (by decide +kernel) rfl (by rw [hR.1, hR.2]; decide) kk46 kl46 rfl (Nat.le_of_ble_eq_true rfl) dX11_card_95 (fun x51 h52 hn => ?_)
            clear hm
            have hm := hn
            clear hn
            refine xr_pop C dX11_card_98 rfl ?_
            refine xr_aload_n (r := (some a0)) C dX11_card_99 1 rfl ?_
            obtain ⟨fs54, r55, e54, f54, hm⟩ := hm
            refine xr_get (ci := 12) C 1 e54 f54 rfl inX11 (by decide) wd_524 dX11_card_100 ?_
            obtain ⟨a57, rfl, hm⟩ := hm
            obtain ⟨fs56, r58, e56, f56, hm⟩ := hm
            refine xr_get (ci := 4) C 1 e56 f56 rfl inX3 (by decide) wd_541 dX11_card_103 ?_
            obtain ⟨kc62, ks63, kk59, kl59, hm⟩ := hm
            refine xr_new (ci := 1) (fs := [.long 0, .int 0]) C tyX0 tyX0_ok rfl inX0 wd_547 wd_548 wd_546 dvX0 kk59 kl59 dX11_card_106 (fun a60 h61 na59 eh59 => ?_)
            replace hm := hm a60 h61 na59 eh59
            refine xr_dup C dX11_card_109 rfl ?_
            refine xr_lload C dX11_card_110 5 rfl ?_
            refine xr_cIv (n := 1) (As := [.long yp5]) (st := [.ref a60, va_rf r58]) C (c_X0_init a60 yp5 h61 0 0 hm) wd_543 wd_545 wd_546 wd_544 rfl (by decide +kernel) rfl (by rw [hR.1, hR.2]; decide) (Nat.zero_add _).symm (Nat.zero_add _).symm rfl (by simp [xv_cat, xv_ci, xv_cl, xv_cr, xv_cn]) dX11_card_112 (fun h66 hn => ?_)
            clear hm
            have hm := hn
            clear hn
            obtain ⟨a74, rfl, hm⟩ := hm
            obtain ⟨⟨fs67, e67⟩, hm⟩ := hm
            obtain ⟨mc68, ms69, kc70, ks71, kk67, kl67, hm⟩ := hm
            refine xr_cVi (n := 1) (As := [.ref a60]) (st := []) C (c_Jx4a65c_add_9ea2d a74 (some a60) h66 mc68 ms69 hm) e67 rfl wd_542 wd_117 wd_118 wd_45 wd_116 (by decide +kernel) rfl (by rw [hR.1, hR.2]; decide) kk67 kl67 rfl (Nat.le_of_ble_eq_true rfl) dX11_card_115 (fun x72 h73 hn => ?_)
            clear hm
            have hm := hn
            clear hn
            refine xr_pop C dX11_card_118 rfl ?_
            refine xr_iload C dX11_card_119 0 rfl ?_
            exact xr_ireturn C hr hlk hm dX11_card_121
          · replace hm := hm.1 q26
            refine xr_iconst (v := (-1)) C dX11_card_69 rfl ?_
            exact xr_ireturn C hr hlk hm dX11_card_70
      · replace hm := hm.1 q18
        refine xr_iconst (v := (-1)) C dX11_card_42 rfl ?_
        exact xr_ireturn C hr hlk hm dX11_card_43
set_option maxRecDepth 100000 in
set_option maxHeartbeats 4000000 in
theorem c_X11_terminal {l : Launch} {D : va_G} {E : Ev} (a0 : Nat) (yp1 : Int64) (yp3 : Int64) (h : Hp) (kc ks : Nat) {Q : Int32 → Hp → Prop} (hm : m_X11_terminal E a0 yp1 yp3 h kc ks Q) : XMet l yX11_terminal cX11_terminal 6 (some .int) 7 191 kc ks D E h [.ref a0, .long yp1, .long yp3] (fun A => va_Qi Q (XPost D A) A) := by
  refine xm_of (lv0 := [(0, .ref a0), (1, .long yp1), (3, .long yp3)]) (by decide) (Nat.le_of_ble_eq_true rfl) rfl RX11 rfl (fun p e s m args below meth c A R hRm C hr hlk hnm => ?_)
  have hR : R.frames = 7 ∧ R.locals = 191 := by rw [hRm]; exact ⟨rfl, rfl⟩
  refine xr_aload_n (r := (some a0)) C dX11_terminal_0 0 rfl ?_
  obtain ⟨fs1, r2, e1, f1, hm⟩ := hm
  refine xr_get (ci := 12) C 0 e1 f1 rfl inX11 (by decide) wd_523 dX11_terminal_1 ?_
  obtain ⟨a4, rfl, hm⟩ := hm
  obtain ⟨fs3, r5, e3, f3, hm⟩ := hm
  refine xr_get (ci := 11) C 3 e3 f3 rfl inX10 (by decide) wd_559 dX11_terminal_4 ?_
  obtain ⟨a9, rfl, hm⟩ := hm
  obtain ⟨⟨fs6, e6⟩, hm⟩ := hm
  refine xr_cVi (n := 0) (As := []) (st := []) C (c_Jx4a65c_size_8abf5 a9 h 0 0 hm) e6 rfl wd_558 wd_113 wd_114 wd_45 wd_112 (by decide +kernel) rfl (by rw [hR.1, hR.2]; decide) (Nat.zero_add _).symm (Nat.zero_add _).symm rfl (Nat.le_of_ble_eq_true rfl) dX11_terminal_7 (fun x7 h8 hn => ?_)
  clear hm
  have hm := hn
  clear hn
  refine xr_istore (lv' := [(5, .int x7), (0, .ref a0), (1, .long yp1), (3, .long yp3)]) C dX11_terminal_10 (by decide) rfl ?_
  refine xr_iload C dX11_terminal_12 0 rfl ?_
  refine xr_bipush (v := 8) C dX11_terminal_14 rfl ?_
  refine xr_icmp_ge (tgt := 41) C dX11_terminal_16 (by decide) (fun q10 => ?_) (fun q10 => ?_)
  · replace hm := hm.1 q10
    refine xr_iconst (v := (-1)) C dX11_terminal_41 rfl ?_
    exact xr_ireturn C hr hlk hm dX11_terminal_42
  · replace hm := hm.2 q10
    refine xr_lload_n C dX11_terminal_19 2 rfl ?_
    refine xr_lconst (v := 0) C dX11_terminal_20 rfl ?_
    refine xr_ldc2 (v := 1000000000) C dX11_terminal_21 wd_538 ?_
    refine xr_cSi (n := 3) (As := [.long yp1, .long 0, .long 1000000000]) (st := []) C (c_X11_isWithin yp1 0 1000000000 h8 0 0 hm) wd_554 wd_556 wd_557 wd_555 (by decide +kernel) rfl (by rw [hR.1, hR.2]; decide) (Nat.zero_add _).symm (Nat.zero_add _).symm rfl (Nat.le_of_ble_eq_true rfl) dX11_terminal_24 (fun x12 h13 hn => ?_)
    clear hm
    have hm := hn
    clear hn
    refine xr_if_eq (tgt := 41) C dX11_terminal_27 (by decide) (fun q14 => ?_) (fun q14 => ?_)
    · replace hm := hm.1 q14
      refine xr_iconst (v := (-1)) C dX11_terminal_41 rfl ?_
      exact xr_ireturn C hr hlk hm dX11_terminal_42
    · replace hm := hm.2 q14
      refine xr_lload_n C dX11_terminal_30 3 rfl ?_
      refine xr_lconst (v := 0) C dX11_terminal_31 rfl ?_
      refine xr_ldc2 (v := 1000000000) C dX11_terminal_32 wd_538 ?_
      refine xr_cSi (n := 3) (As := [.long yp3, .long 0, .long 1000000000]) (st := []) C (c_X11_isWithin yp3 0 1000000000 h13 0 0 hm) wd_554 wd_556 wd_557 wd_555 (by decide +kernel) rfl (by rw [hR.1, hR.2]; decide) (Nat.zero_add _).symm (Nat.zero_add _).symm rfl (Nat.le_of_ble_eq_true rfl) dX11_terminal_35 (fun x16 h17 hn => ?_)
      clear hm
      have hm := hn
      clear hn
      refine xr_if_ne (tgt := 43) C dX11_terminal_38 (by decide) (fun q18 => ?_) (fun q18 => ?_)
      · replace hm := hm.2 q18
        refine xr_aload_n (r := (some a0)) C dX11_terminal_43 1 rfl ?_
        obtain ⟨fs19, r20, e19, f19, hm⟩ := hm
        refine xr_get (ci := 12) C 0 e19 f19 rfl inX11 (by decide) wd_523 dX11_terminal_44 ?_
        obtain ⟨a22, rfl, hm⟩ := hm
        obtain ⟨fs21, r23, e21, f21, hm⟩ := hm
        refine xr_get (ci := 11) C 3 e21 f21 rfl inX10 (by decide) wd_559 dX11_terminal_47 ?_
        obtain ⟨kc27, ks28, kk24, kl24, hm⟩ := hm
        refine xr_new (ci := 9) (fs := [.null, .int 0, .long 0, .long 0, .null, .int 0, .long 0, .int 0, .int 0, .null, .int 0, .int 0, .int 0, .int 0]) C tyX8 tyX8_ok rfl inX8 wd_563 wd_564 wd_405 dvX8 kk24 kl24 dX11_terminal_50 (fun a25 h26 na24 eh24 => ?_)
        replace hm := hm a25 h26 na24 eh24
        refine xr_dup C dX11_terminal_53 rfl ?_
        refine xr_aload_n (r := (some a0)) C dX11_terminal_54 1 rfl ?_
        obtain ⟨fs29, r30, e29, f29, hm⟩ := hm
        refine xr_get (ci := 12) C 0 e29 f29 rfl inX11 (by decide) wd_523 dX11_terminal_55 ?_
        refine xr_iload C dX11_terminal_58 0 rfl ?_
        refine xr_lload_n C dX11_terminal_60 2 rfl ?_
        refine xr_lload_n C dX11_terminal_61 3 rfl ?_
        obtain ⟨mc32, ms33, kc34, ks35, kk31, kl31, hm⟩ := hm
        refine xr_cIv (n := 4) (As := [va_rf r30, .int x7, .long yp1, .long yp3]) (st := [.ref a25, va_rf r23]) C (c_X8_init a25 r30 x7 yp1 yp3 h26 mc32 ms33 hm) wd_560 wd_562 wd_405 wd_561 rfl (by decide +kernel) rfl (by rw [hR.1, hR.2]; decide) kk31 kl31 rfl (by simp [xv_cat, xv_ci, xv_cl, xv_cr, xv_cn]) dX11_terminal_62 (fun h37 hn => ?_)
        clear hm
        have hm := hn
        clear hn
        obtain ⟨a45, rfl, hm⟩ := hm
        obtain ⟨⟨fs38, e38⟩, hm⟩ := hm
        obtain ⟨mc39, ms40, kc41, ks42, kk38, kl38, hm⟩ := hm
        refine xr_cVi (n := 1) (As := [.ref a25]) (st := []) C (c_Jx4a65c_add_9ea2d a45 (some a25) h37 mc39 ms40 hm) e38 rfl wd_542 wd_117 wd_118 wd_45 wd_116 (by decide +kernel) rfl (by rw [hR.1, hR.2]; decide) kk38 kl38 rfl (Nat.le_of_ble_eq_true rfl) dX11_terminal_65 (fun x43 h44 hn => ?_)
        clear hm
        have hm := hn
        clear hn
        refine xr_pop C dX11_terminal_68 rfl ?_
        refine xr_iload C dX11_terminal_69 0 rfl ?_
        exact xr_ireturn C hr hlk hm dX11_terminal_71
      · replace hm := hm.1 q18
        refine xr_iconst (v := (-1)) C dX11_terminal_41 rfl ?_
        exact xr_ireturn C hr hlk hm dX11_terminal_42
set_option maxRecDepth 100000 in
set_option maxHeartbeats 4000000 in
theorem c_X11_purchase {l : Launch} {D : va_G} {E : Ev} (a0 : Nat) (xp1 : Int32) (xp2 : Int32) (yp3 : Int64) (xp5 : Int32) (h : Hp) (kc ks : Nat) {Q : Int32 → Hp → Prop} (hm : m_X11_purchase E a0 xp1 xp2 yp3 xp5 h kc ks Q) : XMet l yX11_purchase cX11_purchase 6 (some .int) 8 215 kc ks D E h [.ref a0, .int xp1, .int xp2, .long yp3, .int xp5] (fun A => va_Qi Q (XPost D A) A) := by
  refine xm_of (lv0 := [(0, .ref a0), (1, .int xp1), (2, .int xp2), (3, .long yp3), (5, .int xp5)]) (by decide) (Nat.le_of_ble_eq_true rfl) rfl RX11 rfl (fun p e s m args below meth c A R hRm C hr hlk hnm => ?_)
  have hR : R.frames = 8 ∧ R.locals = 215 := by rw [hRm]; exact ⟨rfl, rfl⟩
  refine xr_aload_n (r := (some a0)) C dX11_purchase_0 0 rfl ?_
  obtain ⟨fs1, r2, e1, f1, hm⟩ := hm
  refine xr_get (ci := 12) C 0 e1 f1 rfl inX11 (by decide) wd_523 dX11_purchase_1 ?_
  refine xr_iload_n C dX11_purchase_4 1 rfl ?_
  obtain ⟨a6, rfl, hm⟩ := hm
  obtain ⟨⟨fs3, e3⟩, hm⟩ := hm
  refine xr_cVi (n := 1) (As := [.int xp1]) (st := []) C (c_X10_isTerminal a6 xp1 h 0 0 hm) e3 rfl wd_571 wd_319 wd_320 wd_178 wd_318 (by decide +kernel) rfl (by rw [hR.1, hR.2]; decide) (Nat.zero_add _).symm (Nat.zero_add _).symm rfl (Nat.le_of_ble_eq_true rfl) dX11_purchase_5 (fun x4 h5 hn => ?_)
  clear hm
  have hm := hn
  clear hn
  refine xr_if_eq (tgt := 22) C dX11_purchase_8 (by decide) (fun q7 => ?_) (fun q7 => ?_)
  · replace hm := hm.1 q7
    refine xr_iconst (v := (-1)) C dX11_purchase_22 rfl ?_
    exact xr_ireturn C hr hlk hm dX11_purchase_23
  · replace hm := hm.2 q7
    refine xr_aload_n (r := (some a0)) C dX11_purchase_11 0 rfl ?_
    obtain ⟨fs8, r9, e8, f8, hm⟩ := hm
    refine xr_get (ci := 12) C 0 e8 f8 rfl inX11 (by decide) wd_523 dX11_purchase_12 ?_
    refine xr_iload_n C dX11_purchase_15 2 rfl ?_
    obtain ⟨a13, rfl, hm⟩ := hm
    obtain ⟨⟨fs10, e10⟩, hm⟩ := hm
    refine xr_cVi (n := 1) (As := [.int xp2]) (st := []) C (c_X10_isCard a13 xp2 h5 0 0 hm) e10 rfl wd_570 wd_436 wd_437 wd_178 wd_435 (by decide +kernel) rfl (by rw [hR.1, hR.2]; decide) (Nat.zero_add _).symm (Nat.zero_add _).symm rfl (Nat.le_of_ble_eq_true rfl) dX11_purchase_16 (fun x11 h12 hn => ?_)
    clear hm
    have hm := hn
    clear hn
    refine xr_if_ne (tgt := 24) C dX11_purchase_19 (by decide) (fun q14 => ?_) (fun q14 => ?_)
    · replace hm := hm.2 q14
      refine xr_lload_n C dX11_purchase_24 3 rfl ?_
      refine xr_lconst (v := 1) C dX11_purchase_25 rfl ?_
      refine xr_ldc2 (v := 1000000000) C dX11_purchase_26 wd_538 ?_
      refine xr_cSi (n := 3) (As := [.long yp3, .long 1, .long 1000000000]) (st := []) C (c_X11_isWithin yp3 1 1000000000 h12 0 0 hm) wd_554 wd_556 wd_557 wd_555 (by decide +kernel) rfl (by rw [hR.1, hR.2]; decide) (Nat.zero_add _).symm (Nat.zero_add _).symm rfl (Nat.le_of_ble_eq_true rfl) dX11_purchase_29 (fun x16 h17 hn => ?_)
      clear hm
      have hm := hn
      clear hn
      refine xr_if_eq (tgt := 48) C dX11_purchase_32 (by decide) (fun q18 => ?_) (fun q18 => ?_)
      · replace hm := hm.1 q18
        refine xr_iconst (v := (-1)) C dX11_purchase_48 rfl ?_
        exact xr_ireturn C hr hlk hm dX11_purchase_49
      · replace hm := hm.2 q18
        refine xr_iload C dX11_purchase_35 4 rfl ?_
        refine xr_i2l (v := xp5.toInt64) C dX11_purchase_37 rfl ?_
        refine xr_lconst (v := 0) C dX11_purchase_38 rfl ?_
        refine xr_ldc2 (v := 9999) C dX11_purchase_39 wd_537 ?_
        refine xr_cSi (n := 3) (As := [.long xp5.toInt64, .long 0, .long 9999]) (st := []) C (c_X11_isWithin xp5.toInt64 0 9999 h17 0 0 hm) wd_554 wd_556 wd_557 wd_555 (by decide +kernel) rfl (by rw [hR.1, hR.2]; decide) (Nat.zero_add _).symm (Nat.zero_add _).symm rfl (Nat.le_of_ble_eq_true rfl) dX11_purchase_42 (fun x20 h21 hn => ?_)
        clear hm
        have hm := hn
        clear hn
        refine xr_if_ne (tgt := 50) C dX11_purchase_45 (by decide) (fun q22 => ?_) (fun q22 => ?_)
        · replace hm := hm.2 q22
          refine xr_aload_n (r := (some a0)) C dX11_purchase_50 0 rfl ?_
          obtain ⟨fs23, r24, e23, f23, hm⟩ := hm
          refine xr_get (ci := 12) C 0 e23 f23 rfl inX11 (by decide) wd_523 dX11_purchase_51 ?_
          obtain ⟨a26, rfl, hm⟩ := hm
          obtain ⟨fs25, r27, e25, f25, hm⟩ := hm
          refine xr_get (ci := 11) C 3 e25 f25 rfl inX10 (by decide) wd_559 dX11_purchase_54 ?_
          refine xr_iload_n C dX11_purchase_57 1 rfl ?_
          obtain ⟨a31, rfl, hm⟩ := hm
          obtain ⟨⟨fs28, e28⟩, hm⟩ := hm
          refine xr_cVq (n := 1) (As := [.int xp1]) (st := []) C (c_Jx4a65c_get_915e3 a31 xp1 h21 0 0 hm) e28 rfl wd_569 wd_134 wd_135 wd_45 wd_133 (by decide +kernel) rfl (by rw [hR.1, hR.2]; decide) (Nat.zero_add _).symm (Nat.zero_add _).symm rfl (Nat.le_of_ble_eq_true rfl) dX11_purchase_58 (fun r29 h30 hn => ?_)
          clear hm
          have hm := hn
          clear hn
          obtain ⟨a33, rfl, hm⟩ := hm
          obtain ⟨⟨fs32, e32⟩, hm⟩ := hm
          refine xr_cast C e32 rfl wd_563 dX11_purchase_61 ?_
          refine xr_iload_n C dX11_purchase_64 2 rfl ?_
          refine xr_lload_n C dX11_purchase_65 3 rfl ?_
          refine xr_iload C dX11_purchase_66 4 rfl ?_
          obtain ⟨⟨fs34, e34⟩, hm⟩ := hm
          obtain ⟨mc35, ms36, kc37, ks38, kk34, kl34, hm⟩ := hm
          refine xr_cVi (n := 3) (As := [.int xp2, .long yp3, .int xp5]) (st := []) C (c_X8_start a33 xp2 yp3 xp5 h30 mc35 ms36 hm) e34 rfl wd_565 wd_567 wd_568 wd_405 wd_566 (by decide +kernel) rfl (by rw [hR.1, hR.2]; decide) kk34 kl34 rfl (Nat.le_of_ble_eq_true rfl) dX11_purchase_68 (fun x39 h40 hn => ?_)
          clear hm
          have hm := hn
          clear hn
          exact xr_ireturn C hr hlk hm dX11_purchase_71
        · replace hm := hm.1 q22
          refine xr_iconst (v := (-1)) C dX11_purchase_48 rfl ?_
          exact xr_ireturn C hr hlk hm dX11_purchase_49
    · replace hm := hm.1 q14
      refine xr_iconst (v := (-1)) C dX11_purchase_22 rfl ?_
      exact xr_ireturn C hr hlk hm dX11_purchase_23
set_option maxRecDepth 100000 in
set_option maxHeartbeats 4000000 in
theorem k_X11_deliver_L158 {p : Program} {l : Launch} {e : Env} {R : Room} {s : State} {m : MethodId} {args : Array Value} {below : List Frame} {meth : Method} {c : Code} {D : va_G} {E : Ev} {A : Nat → Prop} {KC KS : Nat} (C : XC p R s m args c D E A 5 RX11 cX11_deliver KC KS) (hr : meth.sig.returnType = (some .int)) (hlk : meth.locks = false) (hnm : meth.name = "deliver") (hR : R.frames = 11 ∧ R.locals = 279) {Q : Int32 → Hp → Prop} : ∀ (xv4 : Int32) (h : Hp) (kc ks : Nat), m_X11_deliver_L158 E xv4 h kc ks Q → XW p l e R s m args below meth c (MQ below (va_Qi Q (XPost D A) A) args s KC KS A) D A KC KS 5 h kc ks [(4, .int xv4)] 158 [] := by
  intro xv4 h kc ks hm
  refine xr_iload C dX11_deliver_158 0 rfl ?_
  refine xr_if_eq (tgt := 167) C dX11_deliver_160 (by decide) (fun q97 => ?_) (fun q97 => ?_)
  · replace hm := hm.1 q97
    refine xr_iconst (v := 0) C dX11_deliver_167 rfl ?_
    exact xr_ireturn C hr hlk hm dX11_deliver_168
  · replace hm := hm.2 q97
    refine xr_iconst (v := 1) C dX11_deliver_163 rfl ?_
    refine xr_goto (tgt := 168) C dX11_deliver_164 (by decide) ?_
    exact xr_ireturn C hr hlk hm dX11_deliver_168
set_option maxRecDepth 100000 in
set_option maxHeartbeats 4000000 in
theorem k_X11_deliver_L108 {p : Program} {l : Launch} {e : Env} {R : Room} {s : State} {m : MethodId} {args : Array Value} {below : List Frame} {meth : Method} {c : Code} {D : va_G} {E : Ev} {A : Nat → Prop} {KC KS : Nat} (C : XC p R s m args c D E A 5 RX11 cX11_deliver KC KS) (hr : meth.sig.returnType = (some .int)) (hlk : meth.locks = false) (hnm : meth.name = "deliver") (hR : R.frames = 11 ∧ R.locals = 279) {Q : Int32 → Hp → Prop} : ∀ (s0 : Int32) (h : Hp) (kc ks : Nat), m_X11_deliver_L108 E s0 h kc ks Q → XW p l e R s m args below meth c (MQ below (va_Qi Q (XPost D A) A) args s KC KS A) D A KC KS 5 h kc ks [] 108 [.int s0] := by
  intro s0 h kc ks hm
  refine xr_istore (lv' := [(4, .int s0)]) C dX11_deliver_108 (by decide) rfl ?_
  refine xr_goto (tgt := 158) C dX11_deliver_110 (by decide) ?_
  exact k_X11_deliver_L158 C hr hlk hnm hR s0 _ _ _ hm
set_option maxRecDepth 100000 in
set_option maxHeartbeats 4000000 in
theorem k_X11_deliver_L107 {p : Program} {l : Launch} {e : Env} {R : Room} {s : State} {m : MethodId} {args : Array Value} {below : List Frame} {meth : Method} {c : Code} {D : va_G} {E : Ev} {A : Nat → Prop} {KC KS : Nat} (C : XC p R s m args c D E A 5 RX11 cX11_deliver KC KS) (hr : meth.sig.returnType = (some .int)) (hlk : meth.locks = false) (hnm : meth.name = "deliver") (hR : R.frames = 11 ∧ R.locals = 279) {Q : Int32 → Hp → Prop} : ∀  (h : Hp) (kc ks : Nat), m_X11_deliver_L107 E  h kc ks Q → XW p l e R s m args below meth c (MQ below (va_Qi Q (XPost D A) A) args s KC KS A) D A KC KS 5 h kc ks [] 107 [] := by
  intro  h kc ks hm
  refine xr_iconst (v := 0) C dX11_deliver_107 rfl ?_
  exact k_X11_deliver_L108 C hr hlk hnm hR 0 _ _ _ hm
set_option maxRecDepth 100000 in
set_option maxHeartbeats 4000000 in
theorem k_X11_deliver_L156 {p : Program} {l : Launch} {e : Env} {R : Room} {s : State} {m : MethodId} {args : Array Value} {below : List Frame} {meth : Method} {c : Code} {D : va_G} {E : Ev} {A : Nat → Prop} {KC KS : Nat} (C : XC p R s m args c D E A 5 RX11 cX11_deliver KC KS) (hr : meth.sig.returnType = (some .int)) (hlk : meth.locks = false) (hnm : meth.name = "deliver") (hR : R.frames = 11 ∧ R.locals = 279) {Q : Int32 → Hp → Prop} : ∀ (s0 : Int32) (h : Hp) (kc ks : Nat), m_X11_deliver_L156 E s0 h kc ks Q → XW p l e R s m args below meth c (MQ below (va_Qi Q (XPost D A) A) args s KC KS A) D A KC KS 5 h kc ks [] 156 [.int s0] := by
  intro s0 h kc ks hm
  refine xr_istore (lv' := [(4, .int s0)]) C dX11_deliver_156 (by decide) rfl ?_
  exact k_X11_deliver_L158 C hr hlk hnm hR s0 _ _ _ hm
set_option maxRecDepth 100000 in
set_option maxHeartbeats 4000000 in
theorem k_X11_deliver_L155 {p : Program} {l : Launch} {e : Env} {R : Room} {s : State} {m : MethodId} {args : Array Value} {below : List Frame} {meth : Method} {c : Code} {D : va_G} {E : Ev} {A : Nat → Prop} {KC KS : Nat} (C : XC p R s m args c D E A 5 RX11 cX11_deliver KC KS) (hr : meth.sig.returnType = (some .int)) (hlk : meth.locks = false) (hnm : meth.name = "deliver") (hR : R.frames = 11 ∧ R.locals = 279) {Q : Int32 → Hp → Prop} : ∀  (h : Hp) (kc ks : Nat), m_X11_deliver_L155 E  h kc ks Q → XW p l e R s m args below meth c (MQ below (va_Qi Q (XPost D A) A) args s KC KS A) D A KC KS 5 h kc ks [] 155 [] := by
  intro  h kc ks hm
  refine xr_iconst (v := 0) C dX11_deliver_155 rfl ?_
  exact k_X11_deliver_L156 C hr hlk hnm hR 0 _ _ _ hm
set_option maxRecDepth 100000 in
set_option maxHeartbeats 4000000 in
theorem c_X11_deliver {l : Launch} {D : va_G} {E : Ev} (a0 : Nat) (xp1 : Int32) (h : Hp) (kc ks : Nat) {Q : Int32 → Hp → Prop} (hm : m_X11_deliver E a0 xp1 h kc ks Q) : XMet l yX11_deliver cX11_deliver 5 (some .int) 11 279 kc ks D E h [.ref a0, .int xp1] (fun A => va_Qi Q (XPost D A) A) := by
  refine xm_of (lv0 := [(0, .ref a0), (1, .int xp1)]) (by decide) (Nat.le_of_ble_eq_true rfl) rfl RX11 rfl (fun p e s m args below meth c A R hRm C hr hlk hnm => ?_)
  have hR : R.frames = 11 ∧ R.locals = 279 := by rw [hRm]; exact ⟨rfl, rfl⟩
  refine xr_aload_n (r := (some a0)) C dX11_deliver_0 0 rfl ?_
  obtain ⟨fs1, r2, e1, f1, hm⟩ := hm
  refine xr_get (ci := 12) C 0 e1 f1 rfl inX11 (by decide) wd_523 dX11_deliver_1 ?_
  obtain ⟨a4, rfl, hm⟩ := hm
  obtain ⟨fs3, r5, e3, f3, hm⟩ := hm
  refine xr_get (ci := 11) C 0 e3 f3 rfl inX10 (by decide) wd_572 dX11_deliver_4 ?_
  refine xr_iload_n C dX11_deliver_7 1 rfl ?_
  obtain ⟨a9, rfl, hm⟩ := hm
  obtain ⟨⟨fs6, e6⟩, hm⟩ := hm
  refine xr_cVq (n := 1) (As := [.int xp1]) (st := []) C (c_X9_takeOff a9 xp1 h 0 0 hm) e6 rfl wd_592 wd_594 wd_595 wd_171 wd_593 (by decide +kernel) rfl (by rw [hR.1, hR.2]; decide) (Nat.zero_add _).symm (Nat.zero_add _).symm rfl (Nat.le_of_ble_eq_true rfl) dX11_deliver_8 (fun r7 h8 hn => ?_)
  clear hm
  have hm := hn
  clear hn
  refine xr_astore_n (r := r7) (lv' := [(2, va_rf r7), (0, .ref a0), (1, .int xp1)]) C dX11_deliver_11 (by decide) rfl ?_
  refine xr_aload_n (r := r7) C dX11_deliver_12 0 rfl ?_
  refine xr_ifnonnull (tgt := 18) C dX11_deliver_13 (by decide) (fun a11 q10 => ?_) (fun q10 => ?_)
  · replace hm := hm.2 a11 q10
    subst q10
    refine xr_aload_n (r := (some a0)) C dX11_deliver_18 1 rfl ?_
    obtain ⟨fs12, r13, e12, f12, hm⟩ := hm
    refine xr_get (ci := 12) C 0 e12 f12 rfl inX11 (by decide) wd_523 dX11_deliver_19 ?_
    obtain ⟨a15, rfl, hm⟩ := hm
    obtain ⟨fs14, r16, e14, f14, hm⟩ := hm
    refine xr_get (ci := 11) C 6 e14 f14 rfl inX10 (by decide) wd_573 dX11_deliver_22 ?_
    refine xr_astore_n (r := r16) (lv' := [(3, va_rf r16), (2, .ref a11), (0, .ref a0), (1, .int xp1)]) C dX11_deliver_25 (by decide) rfl ?_
    refine xr_aload_n (r := (some a11)) C dX11_deliver_26 1 rfl ?_
    refine xr_aload_n (r := r16) C dX11_deliver_27 0 rfl ?_
    obtain ⟨⟨fs17, e17⟩, hm⟩ := hm
    refine xr_cVi (n := 1) (As := [va_rf r16]) (st := []) C (c_X4_read a11 r16 h8 0 0 hm) e17 rfl wd_588 wd_590 wd_591 wd_143 wd_589 (by decide +kernel) rfl (by rw [hR.1, hR.2]; decide) (Nat.zero_add _).symm (Nat.zero_add _).symm rfl (Nat.le_of_ble_eq_true rfl) dX11_deliver_28 (fun x18 h19 hn => ?_)
    clear hm
    have hm := hn
    clear hn
    refine xr_if_ne (tgt := 36) C dX11_deliver_31 (by decide) (fun q20 => ?_) (fun q20 => ?_)
    · replace hm := hm.2 q20
      refine xr_aload_n (r := (some a11)) C dX11_deliver_36 1 rfl ?_
      obtain ⟨fs21, x22, e21, f21, hm⟩ := hm
      refine xr_get (ci := 5) C 2 e21 f21 rfl inX4 (by decide) wd_574 dX11_deliver_37 ?_
      refine xr_iconst (v := 2) C dX11_deliver_40 rfl ?_
      refine xr_icmp_ne (tgt := 57) C dX11_deliver_41 (by decide) (fun q23 => ?_) (fun q23 => ?_)
      · replace hm := hm.2 q23
        refine xr_aload_n (r := (some a11)) C dX11_deliver_57 1 rfl ?_
        obtain ⟨fs24, x25, e24, f24, hm⟩ := hm
        refine xr_get (ci := 5) C 2 e24 f24 rfl inX4 (by decide) wd_574 dX11_deliver_58 ?_
        refine xr_iconst (v := 1) C dX11_deliver_61 rfl ?_
        refine xr_icmp_ne (tgt := 113) C dX11_deliver_62 (by decide) (fun q26 => ?_) (fun q26 => ?_)
        · replace hm := hm.2 q26
          refine xr_aload_n (r := (some a0)) C dX11_deliver_113 2 rfl ?_
          obtain ⟨fs27, r28, e27, f27, hm⟩ := hm
          refine xr_get (ci := 12) C 0 e27 f27 rfl inX11 (by decide) wd_523 dX11_deliver_114 ?_
          refine xr_aload_n (r := (some a11)) C dX11_deliver_117 1 rfl ?_
          obtain ⟨fs29, x30, e29, f29, hm⟩ := hm
          refine xr_get (ci := 5) C 3 e29 f29 rfl inX4 (by decide) wd_575 dX11_deliver_118 ?_
          obtain ⟨a34, rfl, hm⟩ := hm
          obtain ⟨⟨fs31, e31⟩, hm⟩ := hm
          refine xr_cVi (n := 1) (As := [.int x30]) (st := []) C (c_X10_isCard a34 x30 h19 0 0 hm) e31 rfl wd_570 wd_436 wd_437 wd_178 wd_435 (by decide +kernel) rfl (by rw [hR.1, hR.2]; decide) (Nat.zero_add _).symm (Nat.zero_add _).symm rfl (Nat.le_of_ble_eq_true rfl) dX11_deliver_121 (fun x32 h33 hn => ?_)
          clear hm
          have hm := hn
          clear hn
          refine xr_if_eq (tgt := 155) C dX11_deliver_124 (by decide) (fun q35 => ?_) (fun q35 => ?_)
          · replace hm := hm.1 q35
            refine xr_sub [] rfl ?_
            exact k_X11_deliver_L155 C hr hlk hnm hR _ _ _ hm
          · replace hm := hm.2 q35
            refine xr_aload_n (r := (some a0)) C dX11_deliver_127 2 rfl ?_
            obtain ⟨fs36, r37, e36, f36, hm⟩ := hm
            refine xr_get (ci := 12) C 0 e36 f36 rfl inX11 (by decide) wd_523 dX11_deliver_128 ?_
            obtain ⟨a39, rfl, hm⟩ := hm
            obtain ⟨fs38, r40, e38, f38, hm⟩ := hm
            refine xr_get (ci := 11) C 2 e38 f38 rfl inX10 (by decide) wd_536 dX11_deliver_131 ?_
            refine xr_aload_n (r := (some a11)) C dX11_deliver_134 1 rfl ?_
            obtain ⟨fs41, x42, e41, f41, hm⟩ := hm
            refine xr_get (ci := 5) C 3 e41 f41 rfl inX4 (by decide) wd_575 dX11_deliver_135 ?_
            obtain ⟨a46, rfl, hm⟩ := hm
            obtain ⟨⟨fs43, e43⟩, hm⟩ := hm
            refine xr_cVq (n := 1) (As := [.int x42]) (st := []) C (c_Jx4a65c_get_915e3 a46 x42 h33 0 0 hm) e43 rfl wd_569 wd_134 wd_135 wd_45 wd_133 (by decide +kernel) rfl (by rw [hR.1, hR.2]; decide) (Nat.zero_add _).symm (Nat.zero_add _).symm rfl (Nat.le_of_ble_eq_true rfl) dX11_deliver_138 (fun r44 h45 hn => ?_)
            clear hm
            have hm := hn
            clear hn
            obtain ⟨a48, rfl, hm⟩ := hm
            obtain ⟨⟨fs47, e47⟩, hm⟩ := hm
            refine xr_cast C e47 rfl wd_552 dX11_deliver_141 ?_
            refine xr_aload_n (r := r16) C dX11_deliver_144 0 rfl ?_
            obtain ⟨⟨fs49, e49⟩, hm⟩ := hm
            obtain ⟨mc50, ms51, kc52, ks53, kk49, kl49, hm⟩ := hm
            refine xr_cVi (n := 1) (As := [va_rf r16]) (st := []) C (c_X1_takes a48 r16 h45 mc50 ms51 hm) e49 rfl wd_576 wd_578 wd_579 wd_188 wd_577 (by decide +kernel) rfl (by rw [hR.1, hR.2]; decide) kk49 kl49 rfl (Nat.le_of_ble_eq_true rfl) dX11_deliver_145 (fun x54 h55 hn => ?_)
            clear hm
            have hm := hn
            clear hn
            refine xr_if_eq (tgt := 155) C dX11_deliver_148 (by decide) (fun q56 => ?_) (fun q56 => ?_)
            · replace hm := hm.1 q56
              refine xr_sub [] rfl ?_
              exact k_X11_deliver_L155 C hr hlk hnm hR _ _ _ hm
            · replace hm := hm.2 q56
              refine xr_iconst (v := 1) C dX11_deliver_151 rfl ?_
              refine xr_goto (tgt := 156) C dX11_deliver_152 (by decide) ?_
              refine xr_sub [] rfl ?_
              exact k_X11_deliver_L156 C hr hlk hnm hR 1 _ _ _ hm
        · replace hm := hm.1 q26
          refine xr_aload_n (r := (some a0)) C dX11_deliver_65 2 rfl ?_
          obtain ⟨fs57, r58, e57, f57, hm⟩ := hm
          refine xr_get (ci := 12) C 0 e57 f57 rfl inX11 (by decide) wd_523 dX11_deliver_66 ?_
          refine xr_aload_n (r := (some a11)) C dX11_deliver_69 1 rfl ?_
          obtain ⟨fs59, x60, e59, f59, hm⟩ := hm
          refine xr_get (ci := 5) C 3 e59 f59 rfl inX4 (by decide) wd_575 dX11_deliver_70 ?_
          obtain ⟨a64, rfl, hm⟩ := hm
          obtain ⟨⟨fs61, e61⟩, hm⟩ := hm
          refine xr_cVi (n := 1) (As := [.int x60]) (st := []) C (c_X10_isTerminal a64 x60 h19 0 0 hm) e61 rfl wd_571 wd_319 wd_320 wd_178 wd_318 (by decide +kernel) rfl (by rw [hR.1, hR.2]; decide) (Nat.zero_add _).symm (Nat.zero_add _).symm rfl (Nat.le_of_ble_eq_true rfl) dX11_deliver_73 (fun x62 h63 hn => ?_)
          clear hm
          have hm := hn
          clear hn
          refine xr_if_eq (tgt := 107) C dX11_deliver_76 (by decide) (fun q65 => ?_) (fun q65 => ?_)
          · replace hm := hm.1 q65
            refine xr_sub [] rfl ?_
            exact k_X11_deliver_L107 C hr hlk hnm hR _ _ _ hm
          · replace hm := hm.2 q65
            refine xr_aload_n (r := (some a0)) C dX11_deliver_79 2 rfl ?_
            obtain ⟨fs66, r67, e66, f66, hm⟩ := hm
            refine xr_get (ci := 12) C 0 e66 f66 rfl inX11 (by decide) wd_523 dX11_deliver_80 ?_
            obtain ⟨a69, rfl, hm⟩ := hm
            obtain ⟨fs68, r70, e68, f68, hm⟩ := hm
            refine xr_get (ci := 11) C 3 e68 f68 rfl inX10 (by decide) wd_559 dX11_deliver_83 ?_
            refine xr_aload_n (r := (some a11)) C dX11_deliver_86 1 rfl ?_
            obtain ⟨fs71, x72, e71, f71, hm⟩ := hm
            refine xr_get (ci := 5) C 3 e71 f71 rfl inX4 (by decide) wd_575 dX11_deliver_87 ?_
            obtain ⟨a76, rfl, hm⟩ := hm
            obtain ⟨⟨fs73, e73⟩, hm⟩ := hm
            refine xr_cVq (n := 1) (As := [.int x72]) (st := []) C (c_Jx4a65c_get_915e3 a76 x72 h63 0 0 hm) e73 rfl wd_569 wd_134 wd_135 wd_45 wd_133 (by decide +kernel) rfl (by rw [hR.1, hR.2]; decide) (Nat.zero_add _).symm (Nat.zero_add _).symm rfl (Nat.le_of_ble_eq_true rfl) dX11_deliver_90 (fun r74 h75 hn => ?_)
            clear hm
            have hm := hn
            clear hn
            obtain ⟨a78, rfl, hm⟩ := hm
            obtain ⟨⟨fs77, e77⟩, hm⟩ := hm
            refine xr_cast C e77 rfl wd_563 dX11_deliver_93 ?_
            refine xr_aload_n (r := r16) C dX11_deliver_96 0 rfl ?_
            obtain ⟨⟨fs79, e79⟩, hm⟩ := hm
            obtain ⟨mc80, ms81, kc82, ks83, kk79, kl79, hm⟩ := hm
            refine xr_cVi (n := 1) (As := [va_rf r16]) (st := []) C (c_X8_takes a78 r16 h75 mc80 ms81 hm) e79 rfl wd_580 wd_582 wd_583 wd_405 wd_581 (by decide +kernel) rfl (by rw [hR.1, hR.2]; decide) kk79 kl79 rfl (Nat.le_of_ble_eq_true rfl) dX11_deliver_97 (fun x84 h85 hn => ?_)
            clear hm
            have hm := hn
            clear hn
            refine xr_if_eq (tgt := 107) C dX11_deliver_100 (by decide) (fun q86 => ?_) (fun q86 => ?_)
            · replace hm := hm.1 q86
              refine xr_sub [] rfl ?_
              exact k_X11_deliver_L107 C hr hlk hnm hR _ _ _ hm
            · replace hm := hm.2 q86
              refine xr_iconst (v := 1) C dX11_deliver_103 rfl ?_
              refine xr_goto (tgt := 108) C dX11_deliver_104 (by decide) ?_
              refine xr_sub [] rfl ?_
              exact k_X11_deliver_L108 C hr hlk hnm hR 1 _ _ _ hm
      · replace hm := hm.1 q23
        refine xr_aload_n (r := (some a0)) C dX11_deliver_44 2 rfl ?_
        obtain ⟨fs87, r88, e87, f87, hm⟩ := hm
        refine xr_get (ci := 12) C 1 e87 f87 rfl inX11 (by decide) wd_524 dX11_deliver_45 ?_
        refine xr_aload_n (r := r16) C dX11_deliver_48 0 rfl ?_
        obtain ⟨a96, rfl, hm⟩ := hm
        obtain ⟨⟨fs89, e89⟩, hm⟩ := hm
        obtain ⟨mc90, ms91, kc92, ks93, kk89, kl89, hm⟩ := hm
        refine xr_cVi (n := 1) (As := [va_rf r16]) (st := []) C (c_X3_takes a96 r16 h19 mc90 ms91 hm) e89 rfl wd_584 wd_586 wd_587 wd_330 wd_585 (by decide +kernel) rfl (by rw [hR.1, hR.2]; decide) kk89 kl89 rfl (Nat.le_of_ble_eq_true rfl) dX11_deliver_49 (fun x94 h95 hn => ?_)
        clear hm
        have hm := hn
        clear hn
        refine xr_istore (lv' := [(4, .int x94), (3, va_rf r16), (2, .ref a11), (0, .ref a0), (1, .int xp1)]) C dX11_deliver_52 (by decide) (by simp [xv_put1, xv_cat, xv_ci, xv_cl, xv_cr, xv_cn] <;> decide) ?_
        refine xr_goto (tgt := 158) C dX11_deliver_54 (by decide) ?_
        refine xr_sub [0] rfl ?_
        exact k_X11_deliver_L158 C hr hlk hnm hR x94 _ _ _ hm
    · replace hm := hm.1 q20
      refine xr_iconst (v := 0) C dX11_deliver_34 rfl ?_
      exact xr_ireturn C hr hlk hm dX11_deliver_35
  · replace hm := hm.1 q10
    subst q10
    refine xr_iconst (v := (-1)) C dX11_deliver_16 rfl ?_
    exact xr_ireturn C hr hlk hm dX11_deliver_17
