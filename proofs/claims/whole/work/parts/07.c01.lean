set_option maxRecDepth 100000 in
set_option maxHeartbeats 4000000 in
theorem k_X4_write_L45 {p : Program} {l : Launch} {e : Env} {R : Room} {s : State} {m : MethodId} {args : Array Value} {below : List Frame} {meth : Method} {c : Code} {D : va_G} {E : Ev} {A : Nat → Prop} {KC KS : Nat} (C : XC p R s m args c D E A 3 RX4 cX4_write KC KS) (hr : meth.sig.returnType = none) (hlk : meth.locks = false) (hnm : meth.name = "write") (hR : R.frames = 1 ∧ R.locals = 25) {K17 : Nat → Option Nat → Int32 → Hp → Nat → Nat → Prop} {Q : Hp → Prop} (hK17 : ∀ (a0 : Nat) (rv1 : Option Nat) (xv2 : Int32) (h : Hp) (kc ks : Nat), K17 a0 rv1 xv2 h kc ks → XW p l e R s m args below meth c (MQ below (va_Qv Q (XPost D A) A) args s KC KS A) D A KC KS 3 h kc ks [(0, .ref a0), (1, va_rf rv1), (2, .int xv2)] 17 []) : ∀ (a0 : Nat) (rv1 : Option Nat) (xv2 : Int32) (h : Hp) (kc ks : Nat), m_X4_write_L45 E a0 rv1 xv2 h kc ks K17 Q → XW p l e R s m args below meth c (MQ below (va_Qv Q (XPost D A) A) args s KC KS A) D A KC KS 3 h kc ks [(0, .ref a0), (1, va_rf rv1), (2, .int xv2)] 45 [] := by
  intro a0 rv1 xv2 h kc ks hm
  refine xr_iinc (j := 2) (v := xv2 + 1) (lv' := [(2, .int (xv2 + 1)), (0, .ref a0), (1, va_rf rv1)]) C dX4_write_45 rfl rfl (by decide) (by simp [xv_put1, xv_cat, xv_ci, xv_cl, xv_cr, xv_cn] <;> decide) ?_
  refine xr_goto (tgt := 17) C dX4_write_48 (by decide) ?_
  refine xr_sub [1, 2, 0] rfl ?_
  exact hK17 a0 rv1 (xv2 + 1) _ _ _ hm
set_option maxRecDepth 100000 in
set_option maxHeartbeats 4000000 in
theorem k_X4_write_L17 {p : Program} {l : Launch} {e : Env} {R : Room} {s : State} {m : MethodId} {args : Array Value} {below : List Frame} {meth : Method} {c : Code} {D : va_G} {E : Ev} {A : Nat → Prop} {KC KS : Nat} (C : XC p R s m args c D E A 3 RX4 cX4_write KC KS) (hr : meth.sig.returnType = none) (hlk : meth.locks = false) (hnm : meth.name = "write") (hR : R.frames = 1 ∧ R.locals = 25) {Q : Hp → Prop} : ∀ (n : Nat) (a0 : Nat) (rv1 : Option Nat) (xv2 : Int32) (h : Hp) (kc ks : Nat), m_X4_write_L17 n E a0 rv1 xv2 h kc ks Q → XW p l e R s m args below meth c (MQ below (va_Qv Q (XPost D A) A) args s KC KS A) D A KC KS 3 h kc ks [(0, .ref a0), (1, va_rf rv1), (2, .int xv2)] 17 [] := by
  intro n
  induction n with
  | zero => intro a0 rv1 xv2 h kc ks hm; exact False.elim hm
  | succ n ih =>
    intro a0 rv1 xv2 h kc ks hm
    refine xr_iload_n C dX4_write_17 2 rfl ?_
    refine xr_bipush (v := 12) C dX4_write_18 rfl ?_
    refine xr_icmp_ge (tgt := 51) C dX4_write_20 (by decide) (fun q12 => ?_) (fun q12 => ?_)
    · replace hm := hm.1 q12
      exact xr_vreturn C hr hlk hm dX4_write_51
    · replace hm := hm.2 q12
      refine xr_aload_n (r := rv1) C dX4_write_23 1 rfl ?_
      obtain ⟨a14, rfl, hm⟩ := hm
      obtain ⟨fs13, x15, e13, f13, hm⟩ := hm
      refine xr_get (ci := 3) C 0 e13 f13 rfl inX2 (by decide) wd_151 dX4_write_24 ?_
      refine xr_iload_n C dX4_write_27 2 rfl ?_
      refine xr_cSi (n := 2) (As := [.int x15, .int xv2]) (st := []) C (c_X4_hasField x15 xv2 h 0 0 hm) wd_157 wd_159 wd_143 wd_158 (by decide +kernel) rfl (by rw [hR.1, hR.2]; decide) (Nat.zero_add _).symm (Nat.zero_add _).symm rfl (Nat.le_of_ble_eq_true rfl) dX4_write_28 (fun x17 h18 hn => ?_)
      clear hm
      have hm := hn
      clear hn
      refine xr_if_eq (tgt := 45) C dX4_write_31 (by decide) (fun q19 => ?_) (fun q19 => ?_)
      · replace hm := hm.1 q19
        exact k_X4_write_L45 C hr hlk hnm hR ih a0 (some a14) xv2 _ _ _ hm
      · replace hm := hm.2 q19
        refine xr_aload_n (r := (some a0)) C dX4_write_34 0 rfl ?_
        refine xr_iload_n C dX4_write_35 2 rfl ?_
        refine xr_aload_n (r := (some a14)) C dX4_write_36 1 rfl ?_
        obtain ⟨fs20, r21, e20, f20, hm⟩ := hm
        refine xr_get (ci := 3) C 3 e20 f20 rfl inX2 (by decide) wd_152 dX4_write_37 ?_
        refine xr_iload_n C dX4_write_40 2 rfl ?_
        obtain ⟨a23, rfl, hm⟩ := hm
        obtain ⟨N22, f22, y24, e22, b22, v22, hm⟩ := hm
        refine xr_lald C 1 rfl e22 b22 v22 dX4_write_41 ?_
        obtain ⟨⟨fs25, e25⟩, hm⟩ := hm
        refine xr_cVv (n := 2) (As := [.int xv2, .long y24]) (st := []) C (c_X4_writeField a0 xv2 y24 h18 0 0 hm) e25 rfl wd_153 wd_155 wd_156 wd_143 wd_154 (by decide +kernel) rfl (by rw [hR.1, hR.2]; decide) (Nat.zero_add _).symm (Nat.zero_add _).symm rfl (Nat.le_of_ble_eq_true rfl) dX4_write_42 (fun h27 hn => ?_)
        clear hm
        have hm := hn
        clear hn
        exact k_X4_write_L45 C hr hlk hnm hR ih a0 (some a14) xv2 _ _ _ hm
set_option maxRecDepth 100000 in
set_option maxHeartbeats 4000000 in
theorem c_X4_write {l : Launch} {D : va_G} {E : Ev} (a0 : Nat) (rp1 : Option Nat) (h : Hp) (kc ks : Nat) {Q : Hp → Prop} (hm : m_X4_write E a0 rp1 h kc ks Q) : XMet l yX4_write cX4_write 3 none 1 25 kc ks D E h [.ref a0, va_rf rp1] (fun A => va_Qv Q (XPost D A) A) := by
  refine xm_of (lv0 := [(0, .ref a0), (1, va_rf rp1)]) (by decide) (by simp [lg_sl, xv_cat, xv_ci, xv_cl, xv_cr, xv_cn]) (by simp [lv_args, xv_cat, xv_ci, xv_cl, xv_cr, xv_cn]) RX4 rfl (fun p e s m args below meth c A R hRm C hr hlk hnm => ?_)
  have hR : R.frames = 1 ∧ R.locals = 25 := by rw [hRm]; exact ⟨rfl, rfl⟩
  refine xr_aload_n (r := (some a0)) C dX4_write_0 0 rfl ?_
  obtain ⟨fs1, r2, e1, f1, hm⟩ := hm
  refine xr_get (ci := 5) C 5 e1 f1 rfl inX4 (by decide) wd_137 dX4_write_1 ?_
  refine xr_iconst (v := 0) C dX4_write_4 rfl ?_
  refine xr_aload_n (r := rp1) C dX4_write_5 1 rfl ?_
  obtain ⟨a4, rfl, hm⟩ := hm
  obtain ⟨fs3, x5, e3, f3, hm⟩ := hm
  refine xr_get (ci := 3) C 0 e3 f3 rfl inX2 (by decide) wd_151 dX4_write_6 ?_
  obtain ⟨a7, rfl, hm⟩ := hm
  obtain ⟨N6, f6, e6, b6, h8, v6, hm⟩ := hm
  refine xr_iast C 0 rfl e6 b6 v6 dX4_write_9 ?_
  refine xr_aload_n (r := (some a0)) C dX4_write_10 0 rfl ?_
  refine xr_iconst (v := 1) C dX4_write_11 rfl ?_
  obtain ⟨fs9, e9, f9, h10, eh9, hm⟩ := hm
  refine xr_put (ci := 5) (v := .int 1) C 4 .int tyX4 tyX4_ok nmX4 e9 f9 rfl inX4 (by decide) wd_150 rfl (by decide) rfl rfl eh9 dX4_write_12 ?_
  refine xr_iconst (v := 1) C dX4_write_15 rfl ?_
  refine xr_istore_n (lv' := [(2, .int 1), (0, .ref a0), (1, .ref a4)]) C dX4_write_16 (by decide) rfl ?_
  obtain ⟨n11, hm⟩ := hm
  refine xr_sub [1, 2, 0] rfl ?_
  exact k_X4_write_L17 C hr hlk hnm hR n11 a0 (some a4) 1 _ _ _ hm
set_option maxRecDepth 100000 in
set_option maxHeartbeats 4000000 in
theorem c_X10_send {l : Launch} {D : va_G} {E : Ev} (a0 : Nat) (xp1 : Int32) (xp2 : Int32) (xp3 : Int32) (xp4 : Int32) (xp5 : Int32) (h : Hp) (kc ks : Nat) {Q : Int32 → Hp → Prop} (hm : m_X10_send E a0 xp1 xp2 xp3 xp4 xp5 h kc ks Q) : XMet l yX10_send cX10_send 7 (some .boolean) 3 69 kc ks D E h [.ref a0, .int xp1, .int xp2, .int xp3, .int xp4, .int xp5] (fun A => va_Qi Q (XPost D A) A) := by
  refine xm_of (lv0 := [(0, .ref a0), (1, .int xp1), (2, .int xp2), (3, .int xp3), (4, .int xp4), (5, .int xp5)]) (by decide) (Nat.le_of_ble_eq_true rfl) rfl RX10 rfl (fun p e s m args below meth c A R hRm C hr hlk hnm => ?_)
  have hR : R.frames = 3 ∧ R.locals = 69 := by rw [hRm]; exact ⟨rfl, rfl⟩
  refine xr_aload_n (r := (some a0)) C dX10_send_0 0 rfl ?_
  obtain ⟨fs1, r2, e1, f1, hm⟩ := hm
  refine xr_get (ci := 11) C 0 e1 f1 rfl inX10 (by decide) wd_160 dX10_send_1 ?_
  refine xr_iload_n C dX10_send_4 2 rfl ?_
  refine xr_iload_n C dX10_send_5 3 rfl ?_
  refine xr_iload C dX10_send_6 4 rfl ?_
  refine xr_iload C dX10_send_8 5 rfl ?_
  obtain ⟨a10, rfl, hm⟩ := hm
  obtain ⟨⟨fs3, e3⟩, hm⟩ := hm
  obtain ⟨mc4, ms5, kc6, ks7, kk3, kl3, hm⟩ := hm
  refine xr_cVq (n := 4) (As := [.int xp2, .int xp3, .int xp4, .int xp5]) (st := []) C (c_X9_add a10 xp2 xp3 xp4 xp5 h mc4 ms5 hm) e3 rfl wd_167 wd_169 wd_170 wd_171 wd_168 (by decide +kernel) rfl (by rw [hR.1, hR.2]; decide) kk3 kl3 rfl (Nat.le_of_ble_eq_true rfl) dX10_send_10 (fun r8 h9 hn => ?_)
  clear hm
  have hm := hn
  clear hn
  refine xr_astore (r := r8) (lv' := [(6, va_rf r8), (0, .ref a0), (1, .int xp1), (2, .int xp2), (3, .int xp3), (4, .int xp4), (5, .int xp5)]) C dX10_send_13 (by decide) rfl ?_
  refine xr_aload (r := r8) C dX10_send_15 0 rfl ?_
  refine xr_ifnonnull (tgt := 22) C dX10_send_17 (by decide) (fun a12 q11 => ?_) (fun q11 => ?_)
  · replace hm := hm.2 a12 q11
    subst q11
    refine xr_aload_n (r := (some a0)) C dX10_send_22 1 rfl ?_
    obtain ⟨fs13, r14, e13, f13, hm⟩ := hm
    refine xr_get (ci := 11) C 7 e13 f13 rfl inX10 (by decide) wd_161 dX10_send_23 ?_
    refine xr_iload_n C dX10_send_26 2 rfl ?_
    obtain ⟨a16, rfl, hm⟩ := hm
    obtain ⟨fs15, e15, f15, h17, eh15, hm⟩ := hm
    refine xr_put (ci := 3) (v := .int xp1) C 0 .int tyX2 tyX2_ok nmX2 e15 f15 rfl inX2 (by decide) wd_162 rfl (by decide) rfl rfl eh15 dX10_send_27 ?_
    refine xr_aload (r := (some a12)) C dX10_send_30 0 rfl ?_
    refine xr_aload_n (r := (some a0)) C dX10_send_32 1 rfl ?_
    obtain ⟨fs18, r19, e18, f18, hm⟩ := hm
    refine xr_get (ci := 11) C 7 e18 f18 rfl inX10 (by decide) wd_161 dX10_send_33 ?_
    obtain ⟨⟨fs20, e20⟩, hm⟩ := hm
    refine xr_cVv (n := 1) (As := [va_rf r19]) (st := []) C (c_X4_write a12 r19 h17 0 0 hm) e20 rfl wd_163 wd_165 wd_166 wd_143 wd_164 (by decide +kernel) rfl (by rw [hR.1, hR.2]; decide) (Nat.zero_add _).symm (Nat.zero_add _).symm rfl (Nat.le_of_ble_eq_true rfl) dX10_send_36 (fun h22 hn => ?_)
    clear hm
    have hm := hn
    clear hn
    refine xr_iconst (v := 1) C dX10_send_39 rfl ?_
    exact xr_zreturn C hr hlk (Or.inr rfl) hm dX10_send_40
  · replace hm := hm.1 q11
    subst q11
    refine xr_iconst (v := 0) C dX10_send_20 rfl ?_
    exact xr_zreturn C hr hlk (Or.inl rfl) hm dX10_send_21
set_option maxRecDepth 100000 in
set_option maxHeartbeats 4000000 in
theorem c_X1_reply {l : Launch} {D : va_G} {E : Ev} (a0 : Nat) (rp1 : Option Nat) (xp2 : Int32) (h : Hp) (kc ks : Nat) {Q : Hp → Prop} (hm : m_X1_reply E a0 rp1 xp2 h kc ks Q) : XMet l yX1_reply cX1_reply 3 none 4 95 kc ks D E h [.ref a0, va_rf rp1, .int xp2] (fun A => va_Qv Q (XPost D A) A) := by
  refine xm_of (lv0 := [(0, .ref a0), (1, va_rf rp1), (2, .int xp2)]) (by decide) (by simp [lg_sl, xv_cat, xv_ci, xv_cl, xv_cr, xv_cn]) (by simp [lv_args, xv_cat, xv_ci, xv_cl, xv_cr, xv_cn]) RX1 rfl (fun p e s m args below meth c A R hRm C hr hlk hnm => ?_)
  have hR : R.frames = 4 ∧ R.locals = 95 := by rw [hRm]; exact ⟨rfl, rfl⟩
  refine xr_aload_n (r := (some a0)) C dX1_reply_0 0 rfl ?_
  obtain ⟨fs1, r2, e1, f1, hm⟩ := hm
  refine xr_get (ci := 2) C 0 e1 f1 rfl inX1 (by decide) wd_9 dX1_reply_1 ?_
  refine xr_iload_n C dX1_reply_4 2 rfl ?_
  refine xr_iconst (v := 0) C dX1_reply_5 rfl ?_
  refine xr_aload_n (r := (some a0)) C dX1_reply_6 0 rfl ?_
  obtain ⟨fs3, x4, e3, f3, hm⟩ := hm
  refine xr_get (ci := 2) C 1 e3 f3 rfl inX1 (by decide) wd_10 dX1_reply_7 ?_
  refine xr_aload_n (r := rp1) C dX1_reply_10 1 rfl ?_
  obtain ⟨a6, rfl, hm⟩ := hm
  obtain ⟨fs5, x7, e5, f5, hm⟩ := hm
  refine xr_get (ci := 3) C 1 e5 f5 rfl inX2 (by decide) wd_172 dX1_reply_11 ?_
  refine xr_aload_n (r := (some a6)) C dX1_reply_14 1 rfl ?_
  obtain ⟨fs8, x9, e8, f8, hm⟩ := hm
  refine xr_get (ci := 3) C 2 e8 f8 rfl inX2 (by decide) wd_173 dX1_reply_15 ?_
  obtain ⟨a17, rfl, hm⟩ := hm
  obtain ⟨⟨fs10, e10⟩, hm⟩ := hm
  obtain ⟨mc11, ms12, kc13, ks14, kk10, kl10, hm⟩ := hm
  refine xr_cVi (n := 5) (As := [.int xp2, .int 0, .int x4, .int x7, .int x9]) (st := []) C (c_X10_send a17 xp2 0 x4 x7 x9 h mc11 ms12 hm) e10 rfl wd_174 wd_176 wd_177 wd_178 wd_175 (by decide +kernel) rfl (by rw [hR.1, hR.2]; decide) kk10 kl10 rfl (Nat.le_of_ble_eq_true rfl) dX1_reply_18 (fun x15 h16 hn => ?_)
  clear hm
  have hm := hn
  clear hn
  refine xr_pop C dX1_reply_21 rfl ?_
  exact xr_vreturn C hr hlk hm dX1_reply_22
set_option maxRecDepth 100000 in
set_option maxHeartbeats 4000000 in
theorem c_X1_takesBegin {l : Launch} {D : va_G} {E : Ev} (a0 : Nat) (rp1 : Option Nat) (h : Hp) (kc ks : Nat) {Q : Int32 → Hp → Prop} (hm : m_X1_takesBegin E a0 rp1 h kc ks Q) : XMet l yX1_takesBegin cX1_takesBegin 2 (some .boolean) 8 212 kc ks D E h [.ref a0, va_rf rp1] (fun A => va_Qi Q (XPost D A) A) := by
  refine xm_of (lv0 := [(0, .ref a0), (1, va_rf rp1)]) (by decide) (by simp [lg_sl, xv_cat, xv_ci, xv_cl, xv_cr, xv_cn]) (by simp [lv_args, xv_cat, xv_ci, xv_cl, xv_cr, xv_cn]) RX1 rfl (fun p e s m args below meth c A R hRm C hr hlk hnm => ?_)
  have hR : R.frames = 8 ∧ R.locals = 212 := by rw [hRm]; exact ⟨rfl, rfl⟩
  refine xr_aload_n (r := (some a0)) C dX1_takesBegin_0 0 rfl ?_
  obtain ⟨fs1, x2, e1, f1, hm⟩ := hm
  refine xr_get (ci := 2) C 5 e1 f1 rfl inX1 (by decide) wd_179 dX1_takesBegin_1 ?_
  refine xr_ldc (v := 60000) C dX1_takesBegin_4 wd_180 ?_
  refine xr_icmp_lt (tgt := 11) C dX1_takesBegin_6 (by decide) (fun q3 => ?_) (fun q3 => ?_)
  · replace hm := hm.1 q3
    refine xr_aload_n (r := (some a0)) C dX1_takesBegin_11 0 rfl ?_
    obtain ⟨⟨fs4, e4⟩, hm⟩ := hm
    obtain ⟨mc5, ms6, kc7, ks8, kk4, kl4, hm⟩ := hm
    refine xr_cVi (n := 0) (As := []) (st := []) C (c_X1_losesPower a0 h mc5 ms6 hm) e4 rfl wd_197 wd_199 wd_200 wd_188 wd_198 (by decide +kernel) rfl (by rw [hR.1, hR.2]; decide) kk4 kl4 rfl (Nat.le_of_ble_eq_true rfl) dX1_takesBegin_12 (fun x9 h10 hn => ?_)
    clear hm
    have hm := hn
    clear hn
    refine xr_if_eq (tgt := 20) C dX1_takesBegin_15 (by decide) (fun q11 => ?_) (fun q11 => ?_)
    · replace hm := hm.1 q11
      refine xr_aload_n (r := (some a0)) C dX1_takesBegin_20 0 rfl ?_
      refine xr_dup C dX1_takesBegin_21 rfl ?_
      obtain ⟨fs12, x13, e12, f12, hm⟩ := hm
      refine xr_get (ci := 2) C 5 e12 f12 rfl inX1 (by decide) wd_179 dX1_takesBegin_22 ?_
      refine xr_iconst (v := 1) C dX1_takesBegin_25 rfl ?_
      refine xr_iadd C dX1_takesBegin_26 ?_
      obtain ⟨fs14, e14, f14, h15, eh14, hm⟩ := hm
      refine xr_put (ci := 2) (v := .int (x13 + 1)) C 5 .int tyX1 tyX1_ok nmX1 e14 f14 rfl inX1 (by decide) wd_179 rfl (by decide) rfl rfl eh14 dX1_takesBegin_27 ?_
      refine xr_aload_n (r := (some a0)) C dX1_takesBegin_30 0 rfl ?_
      refine xr_iconst (v := 1) C dX1_takesBegin_31 rfl ?_
      obtain ⟨fs16, e16, f16, h17, eh16, hm⟩ := hm
      refine xr_put (ci := 2) (v := .int 1) C 8 .int tyX1 tyX1_ok nmX1 e16 f16 rfl inX1 (by decide) wd_19 rfl (by decide) rfl rfl eh16 dX1_takesBegin_32 ?_
      refine xr_aload_n (r := (some a0)) C dX1_takesBegin_35 0 rfl ?_
      refine xr_iconst (v := 0) C dX1_takesBegin_36 rfl ?_
      obtain ⟨fs18, e18, f18, h19, eh18, hm⟩ := hm
      refine xr_put (ci := 2) (v := .int 0) C 10 .int tyX1 tyX1_ok nmX1 e18 f18 rfl inX1 (by decide) wd_20 rfl (by decide) rfl rfl eh18 dX1_takesBegin_37 ?_
      refine xr_aload_n (r := (some a0)) C dX1_takesBegin_40 0 rfl ?_
      obtain ⟨fs20, r21, e20, f20, hm⟩ := hm
      refine xr_get (ci := 2) C 0 e20 f20 rfl inX1 (by decide) wd_9 dX1_takesBegin_41 ?_
      obtain ⟨a23, rfl, hm⟩ := hm
      obtain ⟨fs22, r24, e22, f22, hm⟩ := hm
      refine xr_get (ci := 11) C 7 e22 f22 rfl inX10 (by decide) wd_181 dX1_takesBegin_44 ?_
      obtain ⟨a26, rfl, hm⟩ := hm
      obtain ⟨fs25, r27, e25, f25, hm⟩ := hm
      refine xr_get (ci := 3) C 3 e25 f25 rfl inX2 (by decide) wd_182 dX1_takesBegin_47 ?_
      refine xr_iconst (v := 1) C dX1_takesBegin_50 rfl ?_
      refine xr_aload_n (r := (some a0)) C dX1_takesBegin_51 0 rfl ?_
      obtain ⟨fs28, x29, e28, f28, hm⟩ := hm
      refine xr_get (ci := 2) C 1 e28 f28 rfl inX1 (by decide) wd_10 dX1_takesBegin_52 ?_
      refine xr_i2l (v := x29.toInt64) C dX1_takesBegin_55 rfl ?_
      obtain ⟨a31, rfl, hm⟩ := hm
      obtain ⟨N30, f30, e30, b30, h32, v30, hm⟩ := hm
      refine xr_last C 1 rfl e30 b30 v30 dX1_takesBegin_56 ?_
      refine xr_aload_n (r := (some a0)) C dX1_takesBegin_57 0 rfl ?_
      obtain ⟨fs33, r34, e33, f33, hm⟩ := hm
      refine xr_get (ci := 2) C 0 e33 f33 rfl inX1 (by decide) wd_9 dX1_takesBegin_58 ?_
      obtain ⟨a36, rfl, hm⟩ := hm
      obtain ⟨fs35, r37, e35, f35, hm⟩ := hm
      refine xr_get (ci := 11) C 7 e35 f35 rfl inX10 (by decide) wd_181 dX1_takesBegin_61 ?_
      obtain ⟨a39, rfl, hm⟩ := hm
      obtain ⟨fs38, r40, e38, f38, hm⟩ := hm
      refine xr_get (ci := 3) C 3 e38 f38 rfl inX2 (by decide) wd_182 dX1_takesBegin_64 ?_
      refine xr_iconst (v := 2) C dX1_takesBegin_67 rfl ?_
      refine xr_aload_n (r := (some a0)) C dX1_takesBegin_68 0 rfl ?_
      obtain ⟨fs41, x42, e41, f41, hm⟩ := hm
      refine xr_get (ci := 2) C 5 e41 f41 rfl inX1 (by decide) wd_179 dX1_takesBegin_69 ?_
      refine xr_i2l (v := x42.toInt64) C dX1_takesBegin_72 rfl ?_
      obtain ⟨a44, rfl, hm⟩ := hm
      obtain ⟨N43, f43, e43, b43, h45, v43, hm⟩ := hm
      refine xr_last C 1 rfl e43 b43 v43 dX1_takesBegin_73 ?_
      refine xr_aload_n (r := (some a0)) C dX1_takesBegin_74 0 rfl ?_
      obtain ⟨fs46, r47, e46, f46, hm⟩ := hm
      refine xr_get (ci := 2) C 0 e46 f46 rfl inX1 (by decide) wd_9 dX1_takesBegin_75 ?_
      obtain ⟨a49, rfl, hm⟩ := hm
      obtain ⟨fs48, r50, e48, f48, hm⟩ := hm
      refine xr_get (ci := 11) C 7 e48 f48 rfl inX10 (by decide) wd_181 dX1_takesBegin_78 ?_
      obtain ⟨a52, rfl, hm⟩ := hm
      obtain ⟨fs51, r53, e51, f51, hm⟩ := hm
      refine xr_get (ci := 3) C 3 e51 f51 rfl inX2 (by decide) wd_182 dX1_takesBegin_81 ?_
      refine xr_bipush (v := 8) C dX1_takesBegin_84 rfl ?_
      refine xr_aload_n (r := (some a0)) C dX1_takesBegin_86 0 rfl ?_
      obtain ⟨fs54, r55, e54, f54, hm⟩ := hm
      refine xr_get (ci := 2) C 0 e54 f54 rfl inX1 (by decide) wd_9 dX1_takesBegin_87 ?_
      obtain ⟨a57, rfl, hm⟩ := hm
      obtain ⟨fs56, r58, e56, f56, hm⟩ := hm
      refine xr_get (ci := 11) C 1 e56 f56 rfl inX10 (by decide) wd_183 dX1_takesBegin_90 ?_
      refine xr_aload_n (r := (some a0)) C dX1_takesBegin_93 0 rfl ?_
      obtain ⟨fs59, x60, e59, f59, hm⟩ := hm
      refine xr_get (ci := 2) C 1 e59 f59 rfl inX1 (by decide) wd_10 dX1_takesBegin_94 ?_
      refine xr_aload_n (r := (some a0)) C dX1_takesBegin_97 0 rfl ?_
      obtain ⟨fs61, x62, e61, f61, hm⟩ := hm
      refine xr_get (ci := 2) C 5 e61 f61 rfl inX1 (by decide) wd_179 dX1_takesBegin_98 ?_
      refine xr_aload_n (r := rp1) C dX1_takesBegin_101 1 rfl ?_
      obtain ⟨a64, rfl, hm⟩ := hm
      obtain ⟨fs63, r65, e63, f63, hm⟩ := hm
      refine xr_get (ci := 3) C 3 e63 f63 rfl inX2 (by decide) wd_182 dX1_takesBegin_102 ?_
      refine xr_iconst (v := 4) C dX1_takesBegin_105 rfl ?_
      obtain ⟨a67, rfl, hm⟩ := hm
      obtain ⟨N66, f66, y68, e66, b66, v66, hm⟩ := hm
      refine xr_lald C 1 rfl e66 b66 v66 dX1_takesBegin_106 ?_
      obtain ⟨a72, rfl, hm⟩ := hm
      obtain ⟨⟨fs69, e69⟩, hm⟩ := hm
      refine xr_cVq (n := 3) (As := [.int x60, .int x62, .long y68]) (st := [.int 8, va_rf r53]) C (c_X7_ofCard a72 x60 x62 y68 h45 0 0 hm) e69 rfl wd_193 wd_195 wd_196 wd_30 wd_194 (by decide +kernel) rfl (by rw [hR.1, hR.2]; decide) (Nat.zero_add _).symm (Nat.zero_add _).symm rfl (by simp [xv_cat, xv_ci, xv_cl, xv_cr, xv_cn]) dX1_takesBegin_107 (fun r70 h71 hn => ?_)
      clear hm
      have hm := hn
      clear hn
      obtain ⟨a80, rfl, hm⟩ := hm
      obtain ⟨⟨fs73, e73⟩, hm⟩ := hm
      obtain ⟨mc74, ms75, kc76, ks77, kk73, kl73, hm⟩ := hm
      refine xr_cVl (n := 0) (As := []) (st := [.int 8, va_rf r53]) C (c_X7_seal a80 h71 mc74 ms75 hm) e73 rfl wd_189 wd_191 wd_192 wd_30 wd_190 (by decide +kernel) rfl (by rw [hR.1, hR.2]; decide) kk73 kl73 rfl (by simp [xv_cat, xv_ci, xv_cl, xv_cr, xv_cn]) dX1_takesBegin_110 (fun y78 h79 hn => ?_)
      clear hm
      have hm := hn
      clear hn
      obtain ⟨a82, rfl, hm⟩ := hm
      obtain ⟨N81, f81, e81, b81, h83, v81, hm⟩ := hm
      refine xr_last C 1 rfl e81 b81 v81 dX1_takesBegin_113 ?_
      refine xr_aload_n (r := (some a0)) C dX1_takesBegin_114 0 rfl ?_
      refine xr_aload_n (r := (some a64)) C dX1_takesBegin_115 1 rfl ?_
      refine xr_iconst (v := 2) C dX1_takesBegin_116 rfl ?_
      obtain ⟨⟨fs84, e84⟩, hm⟩ := hm
      obtain ⟨mc85, ms86, kc87, ks88, kk84, kl84, hm⟩ := hm
      refine xr_cVv (n := 2) (As := [.ref a64, .int 2]) (st := []) C (c_X1_reply a0 (some a64) 2 h83 mc85 ms86 hm) e84 rfl wd_184 wd_186 wd_187 wd_188 wd_185 (by decide +kernel) rfl (by rw [hR.1, hR.2]; decide) kk84 kl84 rfl (Nat.le_of_ble_eq_true rfl) dX1_takesBegin_117 (fun h90 hn => ?_)
      clear hm
      have hm := hn
      clear hn
      refine xr_iconst (v := 1) C dX1_takesBegin_120 rfl ?_
      exact xr_zreturn C hr hlk (Or.inr rfl) hm dX1_takesBegin_121
    · replace hm := hm.2 q11
      refine xr_iconst (v := 1) C dX1_takesBegin_18 rfl ?_
      exact xr_zreturn C hr hlk (Or.inr rfl) hm dX1_takesBegin_19
  · replace hm := hm.2 q3
    refine xr_iconst (v := 0) C dX1_takesBegin_9 rfl ?_
    exact xr_zreturn C hr hlk (Or.inl rfl) hm dX1_takesBegin_10
set_option maxRecDepth 100000 in
set_option maxHeartbeats 4000000 in
theorem c_X1_replyPinned {l : Launch} {D : va_G} {E : Ev} (a0 : Nat) (rp1 : Option Nat) (xp2 : Int32) (xp3 : Int32) (h : Hp) (kc ks : Nat) {Q : Hp → Prop} (hm : m_X1_replyPinned E a0 rp1 xp2 xp3 h kc ks Q) : XMet l yX1_replyPinned cX1_replyPinned 4 none 5 117 kc ks D E h [.ref a0, va_rf rp1, .int xp2, .int xp3] (fun A => va_Qv Q (XPost D A) A) := by
  refine xm_of (lv0 := [(0, .ref a0), (1, va_rf rp1), (2, .int xp2), (3, .int xp3)]) (by decide) (by simp [lg_sl, xv_cat, xv_ci, xv_cl, xv_cr, xv_cn]) (by simp [lv_args, xv_cat, xv_ci, xv_cl, xv_cr, xv_cn]) RX1 rfl (fun p e s m args below meth c A R hRm C hr hlk hnm => ?_)
  have hR : R.frames = 5 ∧ R.locals = 117 := by rw [hRm]; exact ⟨rfl, rfl⟩
  refine xr_aload_n (r := (some a0)) C dX1_replyPinned_0 0 rfl ?_
  refine xr_iload_n C dX1_replyPinned_1 2 rfl ?_
  obtain ⟨fs1, e1, f1, h2, eh1, hm⟩ := hm
  refine xr_put (ci := 2) (v := .int xp2) C 10 .int tyX1 tyX1_ok nmX1 e1 f1 rfl inX1 (by decide) wd_20 rfl (by decide) rfl rfl eh1 dX1_replyPinned_2 ?_
  refine xr_aload_n (r := (some a0)) C dX1_replyPinned_5 0 rfl ?_
  obtain ⟨fs3, r4, e3, f3, hm⟩ := hm
  refine xr_get (ci := 2) C 0 e3 f3 rfl inX1 (by decide) wd_9 dX1_replyPinned_6 ?_
  obtain ⟨a6, rfl, hm⟩ := hm
  obtain ⟨fs5, r7, e5, f5, hm⟩ := hm
  refine xr_get (ci := 11) C 7 e5 f5 rfl inX10 (by decide) wd_181 dX1_replyPinned_9 ?_
  obtain ⟨a9, rfl, hm⟩ := hm
  obtain ⟨fs8, r10, e8, f8, hm⟩ := hm
  refine xr_get (ci := 3) C 3 e8 f8 rfl inX2 (by decide) wd_182 dX1_replyPinned_12 ?_
  refine xr_bipush (v := 6) C dX1_replyPinned_15 rfl ?_
  refine xr_iload_n C dX1_replyPinned_17 3 rfl ?_
  refine xr_i2l (v := xp3.toInt64) C dX1_replyPinned_18 rfl ?_
  obtain ⟨a12, rfl, hm⟩ := hm
  obtain ⟨N11, f11, e11, b11, h13, v11, hm⟩ := hm
  refine xr_last C 1 rfl e11 b11 v11 dX1_replyPinned_19 ?_
  refine xr_aload_n (r := (some a0)) C dX1_replyPinned_20 0 rfl ?_
  refine xr_aload_n (r := rp1) C dX1_replyPinned_21 1 rfl ?_
  refine xr_iconst (v := 4) C dX1_replyPinned_22 rfl ?_
  obtain ⟨⟨fs14, e14⟩, hm⟩ := hm
  obtain ⟨mc15, ms16, kc17, ks18, kk14, kl14, hm⟩ := hm
  refine xr_cVv (n := 2) (As := [va_rf rp1, .int 4]) (st := []) C (c_X1_reply a0 rp1 4 h13 mc15 ms16 hm) e14 rfl wd_184 wd_186 wd_187 wd_188 wd_185 (by decide +kernel) rfl (by rw [hR.1, hR.2]; decide) kk14 kl14 rfl (Nat.le_of_ble_eq_true rfl) dX1_replyPinned_23 (fun h20 hn => ?_)
  clear hm
  have hm := hn
  clear hn
  exact xr_vreturn C hr hlk hm dX1_replyPinned_26
set_option maxRecDepth 100000 in
set_option maxHeartbeats 4000000 in
theorem c_X1_takesPin {l : Launch} {D : va_G} {E : Ev} (a0 : Nat) (rp1 : Option Nat) (h : Hp) (kc ks : Nat) {Q : Int32 → Hp → Prop} (hm : m_X1_takesPin E a0 rp1 h kc ks Q) : XMet l yX1_takesPin cX1_takesPin 2 (some .boolean) 6 140 kc ks D E h [.ref a0, va_rf rp1] (fun A => va_Qi Q (XPost D A) A) := by
  refine xm_of (lv0 := [(0, .ref a0), (1, va_rf rp1)]) (by decide) (by simp [lg_sl, xv_cat, xv_ci, xv_cl, xv_cr, xv_cn]) (by simp [lv_args, xv_cat, xv_ci, xv_cl, xv_cr, xv_cn]) RX1 rfl (fun p e s m args below meth c A R hRm C hr hlk hnm => ?_)
  have hR : R.frames = 6 ∧ R.locals = 140 := by rw [hRm]; exact ⟨rfl, rfl⟩
  refine xr_aload_n (r := (some a0)) C dX1_takesPin_0 0 rfl ?_
  obtain ⟨fs1, x2, e1, f1, hm⟩ := hm
  refine xr_get (ci := 2) C 8 e1 f1 rfl inX1 (by decide) wd_19 dX1_takesPin_1 ?_
  refine xr_iconst (v := 1) C dX1_takesPin_4 rfl ?_
  refine xr_icmp_eq (tgt := 10) C dX1_takesPin_5 (by decide) (fun q3 => ?_) (fun q3 => ?_)
  · replace hm := hm.1 q3
    refine xr_aload_n (r := (some a0)) C dX1_takesPin_10 0 rfl ?_
    obtain ⟨fs4, x5, e4, f4, hm⟩ := hm
    refine xr_get (ci := 2) C 6 e4 f4 rfl inX1 (by decide) wd_6 dX1_takesPin_11 ?_
    refine xr_if_ne (tgt := 26) C dX1_takesPin_14 (by decide) (fun q6 => ?_) (fun q6 => ?_)
    · replace hm := hm.2 q6
      refine xr_aload_n (r := (some a0)) C dX1_takesPin_26 0 rfl ?_
      obtain ⟨⟨fs7, e7⟩, hm⟩ := hm
      obtain ⟨mc8, ms9, kc10, ks11, kk7, kl7, hm⟩ := hm
      refine xr_cVi (n := 0) (As := []) (st := []) C (c_X1_losesPower a0 h mc8 ms9 hm) e7 rfl wd_197 wd_199 wd_200 wd_188 wd_198 (by decide +kernel) rfl (by rw [hR.1, hR.2]; decide) kk7 kl7 rfl (Nat.le_of_ble_eq_true rfl) dX1_takesPin_27 (fun x12 h13 hn => ?_)
      clear hm
      have hm := hn
      clear hn
      refine xr_if_eq (tgt := 35) C dX1_takesPin_30 (by decide) (fun q14 => ?_) (fun q14 => ?_)
      · replace hm := hm.1 q14
        refine xr_aload_n (r := (some a0)) C dX1_takesPin_35 0 rfl ?_
        refine xr_dup C dX1_takesPin_36 rfl ?_
        obtain ⟨fs15, x16, e15, f15, hm⟩ := hm
        refine xr_get (ci := 2) C 6 e15 f15 rfl inX1 (by decide) wd_6 dX1_takesPin_37 ?_
        refine xr_iconst (v := 1) C dX1_takesPin_40 rfl ?_
        refine xr_isub C dX1_takesPin_41 ?_
        obtain ⟨fs17, e17, f17, h18, eh17, hm⟩ := hm
        refine xr_put (ci := 2) (v := .int (x16 - 1)) C 6 .int tyX1 tyX1_ok nmX1 e17 f17 rfl inX1 (by decide) wd_6 rfl (by decide) rfl rfl eh17 dX1_takesPin_42 ?_
        refine xr_aload_n (r := rp1) C dX1_takesPin_45 1 rfl ?_
        obtain ⟨a20, rfl, hm⟩ := hm
        obtain ⟨fs19, r21, e19, f19, hm⟩ := hm
        refine xr_get (ci := 3) C 3 e19 f19 rfl inX2 (by decide) wd_182 dX1_takesPin_46 ?_
        refine xr_bipush (v := 9) C dX1_takesPin_49 rfl ?_
        obtain ⟨a23, rfl, hm⟩ := hm
        obtain ⟨N22, f22, y24, e22, b22, v22, hm⟩ := hm
        refine xr_lald C 1 rfl e22 b22 v22 dX1_takesPin_51 ?_
        refine xr_aload_n (r := (some a0)) C dX1_takesPin_52 0 rfl ?_
        obtain ⟨fs25, x26, e25, f25, hm⟩ := hm
        refine xr_get (ci := 2) C 2 e25 f25 rfl inX1 (by decide) wd_11 dX1_takesPin_53 ?_
        refine xr_i2l (v := x26.toInt64) C dX1_takesPin_56 rfl ?_
        refine xr_lcmp C dX1_takesPin_57 ?_
        refine xr_if_eq (tgt := 70) C dX1_takesPin_58 (by decide) (fun q27 => ?_) (fun q27 => ?_)
        · replace hm := hm.1 q27
          refine xr_aload_n (r := (some a0)) C dX1_takesPin_70 0 rfl ?_
          obtain ⟨⟨fs28, e28⟩, hm⟩ := hm
          obtain ⟨mc29, ms30, kc31, ks32, kk28, kl28, hm⟩ := hm
          refine xr_cVi (n := 0) (As := []) (st := []) C (c_X1_losesPower a0 h18 mc29 ms30 hm) e28 rfl wd_197 wd_199 wd_200 wd_188 wd_198 (by decide +kernel) rfl (by rw [hR.1, hR.2]; decide) kk28 kl28 rfl (Nat.le_of_ble_eq_true rfl) dX1_takesPin_71 (fun x33 h34 hn => ?_)
          clear hm
          have hm := hn
          clear hn
          refine xr_if_eq (tgt := 79) C dX1_takesPin_74 (by decide) (fun q35 => ?_) (fun q35 => ?_)
          · replace hm := hm.1 q35
            refine xr_aload_n (r := (some a0)) C dX1_takesPin_79 0 rfl ?_
            refine xr_iconst (v := 3) C dX1_takesPin_80 rfl ?_
            obtain ⟨fs36, e36, f36, h37, eh36, hm⟩ := hm
            refine xr_put (ci := 2) (v := .int 3) C 6 .int tyX1 tyX1_ok nmX1 e36 f36 rfl inX1 (by decide) wd_6 rfl (by decide) rfl rfl eh36 dX1_takesPin_81 ?_
            refine xr_aload_n (r := (some a0)) C dX1_takesPin_84 0 rfl ?_
            refine xr_aload_n (r := (some a20)) C dX1_takesPin_85 1 rfl ?_
            refine xr_iconst (v := 1) C dX1_takesPin_86 rfl ?_
            refine xr_iconst (v := 1) C dX1_takesPin_87 rfl ?_
            obtain ⟨⟨fs38, e38⟩, hm⟩ := hm
            obtain ⟨mc39, ms40, kc41, ks42, kk38, kl38, hm⟩ := hm
            refine xr_cVv (n := 3) (As := [.ref a20, .int 1, .int 1]) (st := []) C (c_X1_replyPinned a0 (some a20) 1 1 h37 mc39 ms40 hm) e38 rfl wd_201 wd_203 wd_204 wd_188 wd_202 (by decide +kernel) rfl (by rw [hR.1, hR.2]; decide) kk38 kl38 rfl (Nat.le_of_ble_eq_true rfl) dX1_takesPin_88 (fun h44 hn => ?_)
            clear hm
            have hm := hn
            clear hn
            refine xr_iconst (v := 1) C dX1_takesPin_91 rfl ?_
            exact xr_zreturn C hr hlk (Or.inr rfl) hm dX1_takesPin_92
          · replace hm := hm.2 q35
            refine xr_iconst (v := 1) C dX1_takesPin_77 rfl ?_
            exact xr_zreturn C hr hlk (Or.inr rfl) hm dX1_takesPin_78
        · replace hm := hm.2 q27
          refine xr_aload_n (r := (some a0)) C dX1_takesPin_61 0 rfl ?_
          refine xr_aload_n (r := (some a20)) C dX1_takesPin_62 1 rfl ?_
          refine xr_iconst (v := 2) C dX1_takesPin_63 rfl ?_
          refine xr_iconst (v := 0) C dX1_takesPin_64 rfl ?_
          obtain ⟨⟨fs45, e45⟩, hm⟩ := hm
          obtain ⟨mc46, ms47, kc48, ks49, kk45, kl45, hm⟩ := hm
          refine xr_cVv (n := 3) (As := [.ref a20, .int 2, .int 0]) (st := []) C (c_X1_replyPinned a0 (some a20) 2 0 h18 mc46 ms47 hm) e45 rfl wd_201 wd_203 wd_204 wd_188 wd_202 (by decide +kernel) rfl (by rw [hR.1, hR.2]; decide) kk45 kl45 rfl (Nat.le_of_ble_eq_true rfl) dX1_takesPin_65 (fun h51 hn => ?_)
          clear hm
          have hm := hn
          clear hn
          refine xr_iconst (v := 1) C dX1_takesPin_68 rfl ?_
          exact xr_zreturn C hr hlk (Or.inr rfl) hm dX1_takesPin_69
      · replace hm := hm.2 q14
        refine xr_iconst (v := 1) C dX1_takesPin_33 rfl ?_
        exact xr_zreturn C hr hlk (Or.inr rfl) hm dX1_takesPin_34
    · replace hm := hm.1 q6
      refine xr_aload_n (r := (some a0)) C dX1_takesPin_17 0 rfl ?_
      refine xr_aload_n (r := rp1) C dX1_takesPin_18 1 rfl ?_
      refine xr_iconst (v := 2) C dX1_takesPin_19 rfl ?_
      refine xr_iconst (v := 2) C dX1_takesPin_20 rfl ?_
      obtain ⟨⟨fs52, e52⟩, hm⟩ := hm
      obtain ⟨mc53, ms54, kc55, ks56, kk52, kl52, hm⟩ := hm
      refine xr_cVv (n := 3) (As := [va_rf rp1, .int 2, .int 2]) (st := []) C (c_X1_replyPinned a0 rp1 2 2 h mc53 ms54 hm) e52 rfl wd_201 wd_203 wd_204 wd_188 wd_202 (by decide +kernel) rfl (by rw [hR.1, hR.2]; decide) kk52 kl52 rfl (Nat.le_of_ble_eq_true rfl) dX1_takesPin_21 (fun h58 hn => ?_)
      clear hm
      have hm := hn
      clear hn
      refine xr_iconst (v := 1) C dX1_takesPin_24 rfl ?_
      exact xr_zreturn C hr hlk (Or.inr rfl) hm dX1_takesPin_25
  · replace hm := hm.2 q3
    refine xr_iconst (v := 0) C dX1_takesPin_8 rfl ?_
    exact xr_zreturn C hr hlk (Or.inl rfl) hm dX1_takesPin_9
set_option maxRecDepth 100000 in
set_option maxHeartbeats 4000000 in
theorem c_X2_intField {l : Launch} {D : va_G} {E : Ev} (a0 : Nat) (xp1 : Int32) (h : Hp) (kc ks : Nat) {Q : Int32 → Hp → Prop} (hm : m_X2_intField E a0 xp1 h kc ks Q) : XMet l yX2_intField cX2_intField 2 (some .int) 0 0 kc ks D E h [.ref a0, .int xp1] (fun A => va_Qi Q (XPost D A) A) := by
  refine xm_of (lv0 := [(0, .ref a0), (1, .int xp1)]) (by decide) (Nat.le_of_ble_eq_true rfl) rfl RX2 rfl (fun p e s m args below meth c A R hRm C hr hlk hnm => ?_)
  have hR : R.frames = 0 ∧ R.locals = 0 := by rw [hRm]; exact ⟨rfl, rfl⟩
  refine xr_aload_n (r := (some a0)) C dX2_intField_0 0 rfl ?_
  obtain ⟨fs1, r2, e1, f1, hm⟩ := hm
  refine xr_get (ci := 3) C 3 e1 f1 rfl inX2 (by decide) wd_205 dX2_intField_1 ?_
  refine xr_iload_n C dX2_intField_4 1 rfl ?_
  obtain ⟨a4, rfl, hm⟩ := hm
  obtain ⟨N3, f3, y5, e3, b3, v3, hm⟩ := hm
  refine xr_lald C 1 rfl e3 b3 v3 dX2_intField_5 ?_
  refine xr_l2i (v := y5.toInt32) C dX2_intField_6 rfl ?_
  exact xr_ireturn C hr hlk hm dX2_intField_7
set_option maxRecDepth 100000 in
set_option maxHeartbeats 4000000 in
theorem c_X1_answerTo {l : Launch} {D : va_G} {E : Ev} (a0 : Nat) (xp1 : Int32) (yp2 : Int64) (h : Hp) (kc ks : Nat) {Q : Int32 → Hp → Prop} (hm : m_X1_answerTo E a0 xp1 yp2 h kc ks Q) : XMet l yX1_answerTo cX1_answerTo 4 (some .int) 0 0 kc ks D E h [.ref a0, .int xp1, .long yp2] (fun A => va_Qi Q (XPost D A) A) := by
  refine xm_of (lv0 := [(0, .ref a0), (1, .int xp1), (2, .long yp2)]) (by decide) (Nat.le_of_ble_eq_true rfl) rfl RX1 rfl (fun p e s m args below meth c A R hRm C hr hlk hnm => ?_)
  have hR : R.frames = 0 ∧ R.locals = 0 := by rw [hRm]; exact ⟨rfl, rfl⟩
  refine xr_aload_n (r := (some a0)) C dX1_answerTo_0 0 rfl ?_
  obtain ⟨fs1, x2, e1, f1, hm⟩ := hm
  refine xr_get (ci := 2) C 6 e1 f1 rfl inX1 (by decide) wd_6 dX1_answerTo_1 ?_
  refine xr_if_eq (tgt := 11) C dX1_answerTo_4 (by decide) (fun q3 => ?_) (fun q3 => ?_)
  · replace hm := hm.1 q3
    refine xr_iconst (v := 0) C dX1_answerTo_11 rfl ?_
    exact xr_ireturn C hr hlk hm dX1_answerTo_12
  · replace hm := hm.2 q3
    refine xr_iload_n C dX1_answerTo_7 1 rfl ?_
    refine xr_if_ne (tgt := 13) C dX1_answerTo_8 (by decide) (fun q4 => ?_) (fun q4 => ?_)
    · replace hm := hm.2 q4
      refine xr_iload_n C dX1_answerTo_13 1 rfl ?_
      refine xr_iconst (v := 2) C dX1_answerTo_14 rfl ?_
      refine xr_icmp_ne (tgt := 42) C dX1_answerTo_15 (by decide) (fun q5 => ?_) (fun q5 => ?_)
      · replace hm := hm.2 q5
        refine xr_iconst (v := 1) C dX1_answerTo_42 rfl ?_
        exact xr_ireturn C hr hlk hm dX1_answerTo_43
      · replace hm := hm.1 q5
        refine xr_lload_n C dX1_answerTo_18 2 rfl ?_
        refine xr_aload_n (r := (some a0)) C dX1_answerTo_19 0 rfl ?_
        obtain ⟨fs6, y7, e6, f6, hm⟩ := hm
        refine xr_get (ci := 2) C 3 e6 f6 rfl inX1 (by decide) wd_12 dX1_answerTo_20 ?_
        refine xr_lcmp C dX1_answerTo_23 ?_
        refine xr_if_gt (tgt := 42) C dX1_answerTo_24 (by decide) (fun q8 => ?_) (fun q8 => ?_)
        · replace hm := hm.1 q8
          refine xr_iconst (v := 1) C dX1_answerTo_42 rfl ?_
          exact xr_ireturn C hr hlk hm dX1_answerTo_43
        · replace hm := hm.2 q8
          refine xr_aload_n (r := (some a0)) C dX1_answerTo_27 0 rfl ?_
          obtain ⟨fs9, x10, e9, f9, hm⟩ := hm
          refine xr_get (ci := 2) C 7 e9 f9 rfl inX1 (by decide) wd_206 dX1_answerTo_28 ?_
          refine xr_aload_n (r := (some a0)) C dX1_answerTo_31 0 rfl ?_
          obtain ⟨fs11, x12, e11, f11, hm⟩ := hm
          refine xr_get (ci := 2) C 4 e11 f11 rfl inX1 (by decide) wd_13 dX1_answerTo_32 ?_
          refine xr_icmp_ge (tgt := 42) C dX1_answerTo_35 (by decide) (fun q13 => ?_) (fun q13 => ?_)
          · replace hm := hm.1 q13
            refine xr_iconst (v := 1) C dX1_answerTo_42 rfl ?_
            exact xr_ireturn C hr hlk hm dX1_answerTo_43
          · replace hm := hm.2 q13
            refine xr_iconst (v := 2) C dX1_answerTo_38 rfl ?_
            refine xr_goto (tgt := 43) C dX1_answerTo_39 (by decide) ?_
            exact xr_ireturn C hr hlk hm dX1_answerTo_43
    · replace hm := hm.1 q4
      refine xr_iconst (v := 0) C dX1_answerTo_11 rfl ?_
      exact xr_ireturn C hr hlk hm dX1_answerTo_12
set_option maxRecDepth 100000 in
set_option maxHeartbeats 4000000 in
theorem c_X1_keepAsked {l : Launch} {D : va_G} {E : Ev} (a0 : Nat) (rp1 : Option Nat) (xp2 : Int32) (h : Hp) (kc ks : Nat) {Q : Hp → Prop} (hm : m_X1_keepAsked E a0 rp1 xp2 h kc ks Q) : XMet l yX1_keepAsked cX1_keepAsked 3 none 7 191 kc ks D E h [.ref a0, va_rf rp1, .int xp2] (fun A => va_Qv Q (XPost D A) A) := by
  refine xm_of (lv0 := [(0, .ref a0), (1, va_rf rp1), (2, .int xp2)]) (by decide) (by simp [lg_sl, xv_cat, xv_ci, xv_cl, xv_cr, xv_cn]) (by simp [lv_args, xv_cat, xv_ci, xv_cl, xv_cr, xv_cn]) RX1 rfl (fun p e s m args below meth c A R hRm C hr hlk hnm => ?_)
  have hR : R.frames = 7 ∧ R.locals = 191 := by rw [hRm]; exact ⟨rfl, rfl⟩
  refine xr_aload_n (r := (some a0)) C dX1_keepAsked_0 0 rfl ?_
  obtain ⟨kc4, ks5, kk1, kl1, hm⟩ := hm
  refine xr_new (ci := 6) (fs := [.int 0, .int 0, .long 0, .long 0, .int 0, .int 0, .int 0, .long 0]) C tyX5 tyX5_ok rfl inX5 wd_17 wd_18 wd_16 dvX5 kk1 kl1 dX1_keepAsked_1 (fun a2 h3 na1 eh1 => ?_)
  replace hm := hm a2 h3 na1 eh1
  refine xr_dup C dX1_keepAsked_4 rfl ?_
  refine xr_cINv (n := 0) (As := []) (st := [.ref a2, .ref a0]) C (c_X5_init a2 h3 0 0 hm) wn_0 wd_15 wd_16 wd_14 rfl (by decide +kernel) rfl (by rw [hR.1, hR.2]; decide) (Nat.zero_add _).symm (Nat.zero_add _).symm rfl (Nat.le_of_ble_eq_true rfl) dX1_keepAsked_5 (fun h8 hn => ?_)
  clear hm
  have hm := hn
  clear hn
  obtain ⟨fs9, e9, f9, h10, eh9, hm⟩ := hm
  refine xr_put (ci := 2) (v := .ref a2) C 11 (.object "CardPayments$Payment") tyX1 tyX1_ok nmX1 e9 f9 rfl inX1 (by decide) wd_8 rfl (by decide) rfl rfl eh9 dX1_keepAsked_8 ?_
  refine xr_aload_n (r := (some a0)) C dX1_keepAsked_11 0 rfl ?_
  obtain ⟨fs11, r12, e11, f11, hm⟩ := hm
  refine xr_get (ci := 2) C 11 e11 f11 rfl inX1 (by decide) wd_8 dX1_keepAsked_12 ?_
  refine xr_aload_n (r := (some a0)) C dX1_keepAsked_15 0 rfl ?_
  obtain ⟨fs13, x14, e13, f13, hm⟩ := hm
  refine xr_get (ci := 2) C 1 e13 f13 rfl inX1 (by decide) wd_10 dX1_keepAsked_16 ?_
  obtain ⟨a16, rfl, hm⟩ := hm
  obtain ⟨fs15, e15, f15, h17, eh15, hm⟩ := hm
  refine xr_put (ci := 6) (v := .int x14) C 0 .int tyX5 tyX5_ok nmX5 e15 f15 rfl inX5 (by decide) wd_207 rfl (by decide) rfl rfl eh15 dX1_keepAsked_19 ?_
  refine xr_aload_n (r := (some a0)) C dX1_keepAsked_22 0 rfl ?_
  obtain ⟨fs18, r19, e18, f18, hm⟩ := hm
  refine xr_get (ci := 2) C 11 e18 f18 rfl inX1 (by decide) wd_8 dX1_keepAsked_23 ?_
  refine xr_aload_n (r := (some a0)) C dX1_keepAsked_26 0 rfl ?_
  obtain ⟨fs20, x21, e20, f20, hm⟩ := hm
  refine xr_get (ci := 2) C 5 e20 f20 rfl inX1 (by decide) wd_179 dX1_keepAsked_27 ?_
  obtain ⟨a23, rfl, hm⟩ := hm
  obtain ⟨fs22, e22, f22, h24, eh22, hm⟩ := hm
  refine xr_put (ci := 6) (v := .int x21) C 1 .int tyX5 tyX5_ok nmX5 e22 f22 rfl inX5 (by decide) wd_208 rfl (by decide) rfl rfl eh22 dX1_keepAsked_30 ?_
  refine xr_aload_n (r := (some a0)) C dX1_keepAsked_33 0 rfl ?_
  obtain ⟨fs25, r26, e25, f25, hm⟩ := hm
  refine xr_get (ci := 2) C 11 e25 f25 rfl inX1 (by decide) wd_8 dX1_keepAsked_34 ?_
  refine xr_aload_n (r := rp1) C dX1_keepAsked_37 1 rfl ?_
  obtain ⟨a28, rfl, hm⟩ := hm
  obtain ⟨fs27, r29, e27, f27, hm⟩ := hm
  refine xr_get (ci := 3) C 3 e27 f27 rfl inX2 (by decide) wd_182 dX1_keepAsked_38 ?_
  refine xr_iconst (v := 3) C dX1_keepAsked_41 rfl ?_
  obtain ⟨a31, rfl, hm⟩ := hm
  obtain ⟨N30, f30, y32, e30, b30, v30, hm⟩ := hm
  refine xr_lald C 1 rfl e30 b30 v30 dX1_keepAsked_42 ?_
  obtain ⟨a34, rfl, hm⟩ := hm
  obtain ⟨fs33, e33, f33, h35, eh33, hm⟩ := hm
  refine xr_put (ci := 6) (v := .long y32) C 2 .long tyX5 tyX5_ok nmX5 e33 f33 rfl inX5 (by decide) wd_209 rfl (by decide) rfl rfl eh33 dX1_keepAsked_43 ?_
  refine xr_aload_n (r := (some a0)) C dX1_keepAsked_46 0 rfl ?_
  obtain ⟨fs36, r37, e36, f36, hm⟩ := hm
  refine xr_get (ci := 2) C 11 e36 f36 rfl inX1 (by decide) wd_8 dX1_keepAsked_47 ?_
  refine xr_aload_n (r := (some a28)) C dX1_keepAsked_50 1 rfl ?_
  obtain ⟨fs38, r39, e38, f38, hm⟩ := hm
  refine xr_get (ci := 3) C 3 e38 f38 rfl inX2 (by decide) wd_182 dX1_keepAsked_51 ?_
  refine xr_iconst (v := 4) C dX1_keepAsked_54 rfl ?_
  obtain ⟨a41, rfl, hm⟩ := hm
  obtain ⟨N40, f40, y42, e40, b40, v40, hm⟩ := hm
  refine xr_lald C 1 rfl e40 b40 v40 dX1_keepAsked_55 ?_
  obtain ⟨a44, rfl, hm⟩ := hm
  obtain ⟨fs43, e43, f43, h45, eh43, hm⟩ := hm
  refine xr_put (ci := 6) (v := .long y42) C 3 .long tyX5 tyX5_ok nmX5 e43 f43 rfl inX5 (by decide) wd_210 rfl (by decide) rfl rfl eh43 dX1_keepAsked_56 ?_
  refine xr_aload_n (r := (some a0)) C dX1_keepAsked_59 0 rfl ?_
  obtain ⟨fs46, r47, e46, f46, hm⟩ := hm
  refine xr_get (ci := 2) C 11 e46 f46 rfl inX1 (by decide) wd_8 dX1_keepAsked_60 ?_
  refine xr_aload_n (r := (some a28)) C dX1_keepAsked_63 1 rfl ?_
  refine xr_iconst (v := 5) C dX1_keepAsked_64 rfl ?_
  obtain ⟨⟨fs48, e48⟩, hm⟩ := hm
  refine xr_cVi (n := 1) (As := [.int 5]) (st := [va_rf r47]) C (c_X2_intField a28 5 h45 0 0 hm) e48 rfl wd_216 wd_218 wd_219 wd_220 wd_217 (by decide +kernel) rfl (by rw [hR.1, hR.2]; decide) (Nat.zero_add _).symm (Nat.zero_add _).symm rfl (by simp [xv_cat, xv_ci, xv_cl, xv_cr, xv_cn]) dX1_keepAsked_65 (fun x49 h50 hn => ?_)
  clear hm
  have hm := hn
  clear hn
  obtain ⟨a52, rfl, hm⟩ := hm
  obtain ⟨fs51, e51, f51, h53, eh51, hm⟩ := hm
  refine xr_put (ci := 6) (v := .int x49) C 4 .int tyX5 tyX5_ok nmX5 e51 f51 rfl inX5 (by decide) wd_211 rfl (by decide) rfl rfl eh51 dX1_keepAsked_68 ?_
  refine xr_aload_n (r := (some a0)) C dX1_keepAsked_71 0 rfl ?_
  obtain ⟨fs54, r55, e54, f54, hm⟩ := hm
  refine xr_get (ci := 2) C 11 e54 f54 rfl inX1 (by decide) wd_8 dX1_keepAsked_72 ?_
  refine xr_aload_n (r := (some a0)) C dX1_keepAsked_75 0 rfl ?_
  obtain ⟨fs56, x57, e56, f56, hm⟩ := hm
  refine xr_get (ci := 2) C 10 e56 f56 rfl inX1 (by decide) wd_20 dX1_keepAsked_76 ?_
  obtain ⟨a59, rfl, hm⟩ := hm
  obtain ⟨fs58, e58, f58, h60, eh58, hm⟩ := hm
  refine xr_put (ci := 6) (v := .int x57) C 5 .int tyX5 tyX5_ok nmX5 e58 f58 rfl inX5 (by decide) wd_212 rfl (by decide) rfl rfl eh58 dX1_keepAsked_79 ?_
  refine xr_aload_n (r := (some a0)) C dX1_keepAsked_82 0 rfl ?_
  obtain ⟨fs61, r62, e61, f61, hm⟩ := hm
  refine xr_get (ci := 2) C 11 e61 f61 rfl inX1 (by decide) wd_8 dX1_keepAsked_83 ?_
  refine xr_iload_n C dX1_keepAsked_86 2 rfl ?_
  obtain ⟨a64, rfl, hm⟩ := hm
  obtain ⟨fs63, e63, f63, h65, eh63, hm⟩ := hm
  refine xr_put (ci := 6) (v := .int xp2) C 6 .int tyX5 tyX5_ok nmX5 e63 f63 rfl inX5 (by decide) wd_213 rfl (by decide) rfl rfl eh63 dX1_keepAsked_87 ?_
  refine xr_aload_n (r := (some a0)) C dX1_keepAsked_90 0 rfl ?_
  obtain ⟨fs66, r67, e66, f66, hm⟩ := hm
  refine xr_get (ci := 2) C 0 e66 f66 rfl inX1 (by decide) wd_9 dX1_keepAsked_91 ?_
  obtain ⟨a69, rfl, hm⟩ := hm
  obtain ⟨fs68, r70, e68, f68, hm⟩ := hm
  refine xr_get (ci := 11) C 5 e68 f68 rfl inX10 (by decide) wd_214 dX1_keepAsked_94 ?_
  refine xr_aload_n (r := (some a0)) C dX1_keepAsked_97 0 rfl ?_
  obtain ⟨fs71, r72, e71, f71, hm⟩ := hm
  refine xr_get (ci := 2) C 11 e71 f71 rfl inX1 (by decide) wd_8 dX1_keepAsked_98 ?_
  obtain ⟨a80, rfl, hm⟩ := hm
  obtain ⟨⟨fs73, e73⟩, hm⟩ := hm
  obtain ⟨mc74, ms75, kc76, ks77, kk73, kl73, hm⟩ := hm
  refine xr_cVi (n := 1) (As := [va_rf r72]) (st := []) C (c_Jx4a65c_add_9ea2d a80 r72 h65 mc74 ms75 hm) e73 rfl wd_215 wd_117 wd_118 wd_45 wd_116 (by decide +kernel) rfl (by rw [hR.1, hR.2]; decide) kk73 kl73 rfl (Nat.le_of_ble_eq_true rfl) dX1_keepAsked_101 (fun x78 h79 hn => ?_)
  clear hm
  have hm := hn
  clear hn
  refine xr_pop C dX1_keepAsked_104 rfl ?_
  exact xr_vreturn C hr hlk hm dX1_keepAsked_105
set_option maxRecDepth 100000 in
set_option maxHeartbeats 4000000 in
theorem c_X7_ofAnswer {l : Launch} {D : va_G} {E : Ev} (a0 : Nat) (rp1 : Option Nat) (h : Hp) (kc ks : Nat) {Q : Option Nat → Hp → Prop} (hm : m_X7_ofAnswer E a0 rp1 h kc ks Q) : XMet l yX7_ofAnswer cX7_ofAnswer 2 (some (.object "CardPayments$Seals")) 1 22 kc ks D E h [.ref a0, va_rf rp1] (fun A => va_Qq Q (XPost D A) A) := by
  refine xm_of (lv0 := [(0, .ref a0), (1, va_rf rp1)]) (by decide) (by simp [lg_sl, xv_cat, xv_ci, xv_cl, xv_cr, xv_cn]) (by simp [lv_args, xv_cat, xv_ci, xv_cl, xv_cr, xv_cn]) RX7 rfl (fun p e s m args below meth c A R hRm C hr hlk hnm => ?_)
  have hR : R.frames = 1 ∧ R.locals = 22 := by rw [hRm]; exact ⟨rfl, rfl⟩
  refine xr_aload_n (r := (some a0)) C dX7_ofAnswer_0 0 rfl ?_
  refine xr_iconst (v := 0) C dX7_ofAnswer_1 rfl ?_
  refine xr_aload_n (r := rp1) C dX7_ofAnswer_2 1 rfl ?_
  obtain ⟨a2, rfl, hm⟩ := hm
  obtain ⟨fs1, x3, e1, f1, hm⟩ := hm
  refine xr_get (ci := 6) C 0 e1 f1 rfl inX5 (by decide) wd_221 dX7_ofAnswer_3 ?_
  obtain ⟨⟨fs4, e4⟩, hm⟩ := hm
  refine xr_cVq (n := 2) (As := [.int 0, .int x3]) (st := []) C (c_X7_key a0 0 x3 h 0 0 hm) e4 rfl wd_31 wd_33 wd_34 wd_30 wd_32 (by decide +kernel) rfl (by rw [hR.1, hR.2]; decide) (Nat.zero_add _).symm (Nat.zero_add _).symm rfl (Nat.le_of_ble_eq_true rfl) dX7_ofAnswer_6 (fun r5 h6 hn => ?_)
  clear hm
  have hm := hn
  clear hn
  refine xr_ldc2 (v := 6) C dX7_ofAnswer_9 wd_222 ?_
  obtain ⟨a10, rfl, hm⟩ := hm
  obtain ⟨⟨fs7, e7⟩, hm⟩ := hm
  refine xr_cVq (n := 1) (As := [.long 6]) (st := []) C (c_X7_with a10 6 h6 0 0 hm) e7 rfl wd_26 wd_28 wd_29 wd_30 wd_27 (by decide +kernel) rfl (by rw [hR.1, hR.2]; decide) (Nat.zero_add _).symm (Nat.zero_add _).symm rfl (Nat.le_of_ble_eq_true rfl) dX7_ofAnswer_12 (fun r8 h9 hn => ?_)
  clear hm
  have hm := hn
  clear hn
  refine xr_aload_n (r := (some a2)) C dX7_ofAnswer_15 1 rfl ?_
  obtain ⟨fs11, x12, e11, f11, hm⟩ := hm
  refine xr_get (ci := 6) C 6 e11 f11 rfl inX5 (by decide) wd_223 dX7_ofAnswer_16 ?_
  refine xr_i2l (v := x12.toInt64) C dX7_ofAnswer_19 rfl ?_
  obtain ⟨a16, rfl, hm⟩ := hm
  obtain ⟨⟨fs13, e13⟩, hm⟩ := hm
  refine xr_cVq (n := 1) (As := [.long x12.toInt64]) (st := []) C (c_X7_with a16 x12.toInt64 h9 0 0 hm) e13 rfl wd_26 wd_28 wd_29 wd_30 wd_27 (by decide +kernel) rfl (by rw [hR.1, hR.2]; decide) (Nat.zero_add _).symm (Nat.zero_add _).symm rfl (Nat.le_of_ble_eq_true rfl) dX7_ofAnswer_20 (fun r14 h15 hn => ?_)
  clear hm
  have hm := hn
  clear hn
  refine xr_aload_n (r := (some a2)) C dX7_ofAnswer_23 1 rfl ?_
  obtain ⟨fs17, y18, e17, f17, hm⟩ := hm
  refine xr_get (ci := 6) C 2 e17 f17 rfl inX5 (by decide) wd_224 dX7_ofAnswer_24 ?_
  obtain ⟨a22, rfl, hm⟩ := hm
  obtain ⟨⟨fs19, e19⟩, hm⟩ := hm
  refine xr_cVq (n := 1) (As := [.long y18]) (st := []) C (c_X7_with a22 y18 h15 0 0 hm) e19 rfl wd_26 wd_28 wd_29 wd_30 wd_27 (by decide +kernel) rfl (by rw [hR.1, hR.2]; decide) (Nat.zero_add _).symm (Nat.zero_add _).symm rfl (Nat.le_of_ble_eq_true rfl) dX7_ofAnswer_27 (fun r20 h21 hn => ?_)
  clear hm
  have hm := hn
  clear hn
  refine xr_aload_n (r := (some a2)) C dX7_ofAnswer_30 1 rfl ?_
  obtain ⟨fs23, y24, e23, f23, hm⟩ := hm
  refine xr_get (ci := 6) C 3 e23 f23 rfl inX5 (by decide) wd_225 dX7_ofAnswer_31 ?_
  obtain ⟨a28, rfl, hm⟩ := hm
  obtain ⟨⟨fs25, e25⟩, hm⟩ := hm
  refine xr_cVq (n := 1) (As := [.long y24]) (st := []) C (c_X7_with a28 y24 h21 0 0 hm) e25 rfl wd_26 wd_28 wd_29 wd_30 wd_27 (by decide +kernel) rfl (by rw [hR.1, hR.2]; decide) (Nat.zero_add _).symm (Nat.zero_add _).symm rfl (Nat.le_of_ble_eq_true rfl) dX7_ofAnswer_34 (fun r26 h27 hn => ?_)
  clear hm
  have hm := hn
  clear hn
  refine xr_aload_n (r := (some a2)) C dX7_ofAnswer_37 1 rfl ?_
  obtain ⟨fs29, x30, e29, f29, hm⟩ := hm
  refine xr_get (ci := 6) C 4 e29 f29 rfl inX5 (by decide) wd_226 dX7_ofAnswer_38 ?_
  refine xr_i2l (v := x30.toInt64) C dX7_ofAnswer_41 rfl ?_
  obtain ⟨a34, rfl, hm⟩ := hm
  obtain ⟨⟨fs31, e31⟩, hm⟩ := hm
  refine xr_cVq (n := 1) (As := [.long x30.toInt64]) (st := []) C (c_X7_with a34 x30.toInt64 h27 0 0 hm) e31 rfl wd_26 wd_28 wd_29 wd_30 wd_27 (by decide +kernel) rfl (by rw [hR.1, hR.2]; decide) (Nat.zero_add _).symm (Nat.zero_add _).symm rfl (Nat.le_of_ble_eq_true rfl) dX7_ofAnswer_42 (fun r32 h33 hn => ?_)
  clear hm
  have hm := hn
  clear hn
  refine xr_aload_n (r := (some a2)) C dX7_ofAnswer_45 1 rfl ?_
  obtain ⟨fs35, x36, e35, f35, hm⟩ := hm
  refine xr_get (ci := 6) C 1 e35 f35 rfl inX5 (by decide) wd_227 dX7_ofAnswer_46 ?_
  refine xr_i2l (v := x36.toInt64) C dX7_ofAnswer_49 rfl ?_
  obtain ⟨a40, rfl, hm⟩ := hm
  obtain ⟨⟨fs37, e37⟩, hm⟩ := hm
  refine xr_cVq (n := 1) (As := [.long x36.toInt64]) (st := []) C (c_X7_with a40 x36.toInt64 h33 0 0 hm) e37 rfl wd_26 wd_28 wd_29 wd_30 wd_27 (by decide +kernel) rfl (by rw [hR.1, hR.2]; decide) (Nat.zero_add _).symm (Nat.zero_add _).symm rfl (Nat.le_of_ble_eq_true rfl) dX7_ofAnswer_50 (fun r38 h39 hn => ?_)
  clear hm
  have hm := hn
  clear hn
  refine xr_aload_n (r := (some a2)) C dX7_ofAnswer_53 1 rfl ?_
  obtain ⟨fs41, x42, e41, f41, hm⟩ := hm
  refine xr_get (ci := 6) C 5 e41 f41 rfl inX5 (by decide) wd_228 dX7_ofAnswer_54 ?_
  refine xr_i2l (v := x42.toInt64) C dX7_ofAnswer_57 rfl ?_
  obtain ⟨a46, rfl, hm⟩ := hm
  obtain ⟨⟨fs43, e43⟩, hm⟩ := hm
  refine xr_cVq (n := 1) (As := [.long x42.toInt64]) (st := []) C (c_X7_with a46 x42.toInt64 h39 0 0 hm) e43 rfl wd_26 wd_28 wd_29 wd_30 wd_27 (by decide +kernel) rfl (by rw [hR.1, hR.2]; decide) (Nat.zero_add _).symm (Nat.zero_add _).symm rfl (Nat.le_of_ble_eq_true rfl) dX7_ofAnswer_58 (fun r44 h45 hn => ?_)
  clear hm
  have hm := hn
  clear hn
  exact xr_areturn (r := r44) C hr (Or.inl ⟨_, rfl⟩) hlk hm dX7_ofAnswer_61
set_option maxRecDepth 100000 in
set_option maxHeartbeats 4000000 in
theorem k_X1_takesAsk_L68 {p : Program} {l : Launch} {e : Env} {R : Room} {s : State} {m : MethodId} {args : Array Value} {below : List Frame} {meth : Method} {c : Code} {D : va_G} {E : Ev} {A : Nat → Prop} {KC KS : Nat} (C : XC p R s m args c D E A 3 RX1 cX1_takesAsk KC KS) (hr : meth.sig.returnType = (some .boolean)) (hlk : meth.locks = false) (hnm : meth.name = "takesAsk") (hR : R.frames = 8 ∧ R.locals = 213) {Q : Int32 → Hp → Prop} : ∀ (a0 : Nat) (rv1 : Option Nat) (xv2 : Int32) (s0 : Int32) (s1 : Option Nat) (h : Hp) (kc ks : Nat), m_X1_takesAsk_L68 E a0 rv1 xv2 s0 s1 h kc ks Q → XW p l e R s m args below meth c (MQ below (va_Qi Q (XPost D A) A) args s KC KS A) D A KC KS 3 h kc ks [(0, .ref a0), (1, va_rf rv1), (2, .int xv2)] 68 [.int s0, va_rf s1] := by
  intro a0 rv1 xv2 s0 s1 h kc ks hm
  obtain ⟨a38, rfl, hm⟩ := hm
  obtain ⟨fs37, e37, f37, h39, eh37, hm⟩ := hm
  refine xr_put (ci := 2) (v := .int s0) C 8 .int tyX1 tyX1_ok nmX1 e37 f37 rfl inX1 (by decide) wd_19 rfl (by decide) rfl rfl eh37 dX1_takesAsk_68 ?_
  refine xr_aload_n (r := (some a0)) C dX1_takesAsk_71 0 rfl ?_
  obtain ⟨fs40, r41, e40, f40, hm⟩ := hm
  refine xr_get (ci := 2) C 0 e40 f40 rfl inX1 (by decide) wd_9 dX1_takesAsk_72 ?_
  obtain ⟨a43, rfl, hm⟩ := hm
  obtain ⟨fs42, r44, e42, f42, hm⟩ := hm
  refine xr_get (ci := 11) C 7 e42 f42 rfl inX10 (by decide) wd_181 dX1_takesAsk_75 ?_
  obtain ⟨a46, rfl, hm⟩ := hm
  obtain ⟨fs45, r47, e45, f45, hm⟩ := hm
  refine xr_get (ci := 3) C 3 e45 f45 rfl inX2 (by decide) wd_182 dX1_takesAsk_78 ?_
  refine xr_iconst (v := 2) C dX1_takesAsk_81 rfl ?_
  refine xr_aload_n (r := (some a0)) C dX1_takesAsk_82 0 rfl ?_
  obtain ⟨fs48, x49, e48, f48, hm⟩ := hm
  refine xr_get (ci := 2) C 5 e48 f48 rfl inX1 (by decide) wd_179 dX1_takesAsk_83 ?_
  refine xr_i2l (v := x49.toInt64) C dX1_takesAsk_86 rfl ?_
  obtain ⟨a51, rfl, hm⟩ := hm
  obtain ⟨N50, f50, e50, b50, h52, v50, hm⟩ := hm
  refine xr_last C 1 rfl e50 b50 v50 dX1_takesAsk_87 ?_
  refine xr_aload_n (r := (some a0)) C dX1_takesAsk_88 0 rfl ?_
  obtain ⟨fs53, r54, e53, f53, hm⟩ := hm
  refine xr_get (ci := 2) C 0 e53 f53 rfl inX1 (by decide) wd_9 dX1_takesAsk_89 ?_
  obtain ⟨a56, rfl, hm⟩ := hm
  obtain ⟨fs55, r57, e55, f55, hm⟩ := hm
  refine xr_get (ci := 11) C 7 e55 f55 rfl inX10 (by decide) wd_181 dX1_takesAsk_92 ?_
  obtain ⟨a59, rfl, hm⟩ := hm
  obtain ⟨fs58, r60, e58, f58, hm⟩ := hm
  refine xr_get (ci := 3) C 3 e58 f58 rfl inX2 (by decide) wd_182 dX1_takesAsk_95 ?_
  refine xr_bipush (v := 6) C dX1_takesAsk_98 rfl ?_
  refine xr_aload_n (r := (some a0)) C dX1_takesAsk_100 0 rfl ?_
  obtain ⟨fs61, x62, e61, f61, hm⟩ := hm
  refine xr_get (ci := 2) C 10 e61 f61 rfl inX1 (by decide) wd_20 dX1_takesAsk_101 ?_
  refine xr_i2l (v := x62.toInt64) C dX1_takesAsk_104 rfl ?_
  obtain ⟨a64, rfl, hm⟩ := hm
  obtain ⟨N63, f63, e63, b63, h65, v63, hm⟩ := hm
  refine xr_last C 1 rfl e63 b63 v63 dX1_takesAsk_105 ?_
  refine xr_aload_n (r := (some a0)) C dX1_takesAsk_106 0 rfl ?_
  obtain ⟨fs66, r67, e66, f66, hm⟩ := hm
  refine xr_get (ci := 2) C 0 e66 f66 rfl inX1 (by decide) wd_9 dX1_takesAsk_107 ?_
  obtain ⟨a69, rfl, hm⟩ := hm
  obtain ⟨fs68, r70, e68, f68, hm⟩ := hm
  refine xr_get (ci := 11) C 7 e68 f68 rfl inX10 (by decide) wd_181 dX1_takesAsk_110 ?_
  obtain ⟨a72, rfl, hm⟩ := hm
  obtain ⟨fs71, r73, e71, f71, hm⟩ := hm
  refine xr_get (ci := 3) C 3 e71 f71 rfl inX2 (by decide) wd_182 dX1_takesAsk_113 ?_
  refine xr_bipush (v := 7) C dX1_takesAsk_116 rfl ?_
  refine xr_iload_n C dX1_takesAsk_118 2 rfl ?_
  refine xr_i2l (v := xv2.toInt64) C dX1_takesAsk_119 rfl ?_
  obtain ⟨a75, rfl, hm⟩ := hm
  obtain ⟨N74, f74, e74, b74, h76, v74, hm⟩ := hm
  refine xr_last C 1 rfl e74 b74 v74 dX1_takesAsk_120 ?_
  refine xr_aload_n (r := (some a0)) C dX1_takesAsk_121 0 rfl ?_
  obtain ⟨fs77, r78, e77, f77, hm⟩ := hm
  refine xr_get (ci := 2) C 0 e77 f77 rfl inX1 (by decide) wd_9 dX1_takesAsk_122 ?_
  obtain ⟨a80, rfl, hm⟩ := hm
  obtain ⟨fs79, r81, e79, f79, hm⟩ := hm
  refine xr_get (ci := 11) C 7 e79 f79 rfl inX10 (by decide) wd_181 dX1_takesAsk_125 ?_
  obtain ⟨a83, rfl, hm⟩ := hm
  obtain ⟨fs82, r84, e82, f82, hm⟩ := hm
  refine xr_get (ci := 3) C 3 e82 f82 rfl inX2 (by decide) wd_182 dX1_takesAsk_128 ?_
  refine xr_bipush (v := 8) C dX1_takesAsk_131 rfl ?_
  refine xr_aload_n (r := (some a0)) C dX1_takesAsk_133 0 rfl ?_
  obtain ⟨fs85, r86, e85, f85, hm⟩ := hm
  refine xr_get (ci := 2) C 0 e85 f85 rfl inX1 (by decide) wd_9 dX1_takesAsk_134 ?_
  obtain ⟨a88, rfl, hm⟩ := hm
  obtain ⟨fs87, r89, e87, f87, hm⟩ := hm
  refine xr_get (ci := 11) C 1 e87 f87 rfl inX10 (by decide) wd_183 dX1_takesAsk_137 ?_
  refine xr_aload_n (r := (some a0)) C dX1_takesAsk_140 0 rfl ?_
  obtain ⟨fs90, r91, e90, f90, hm⟩ := hm
  refine xr_get (ci := 2) C 11 e90 f90 rfl inX1 (by decide) wd_8 dX1_takesAsk_141 ?_
  obtain ⟨a95, rfl, hm⟩ := hm
  obtain ⟨⟨fs92, e92⟩, hm⟩ := hm
  refine xr_cVq (n := 1) (As := [va_rf r91]) (st := [.int 8, va_rf r84]) C (c_X7_ofAnswer a95 r91 h76 0 0 hm) e92 rfl wd_237 wd_239 wd_240 wd_30 wd_238 (by decide +kernel) rfl (by rw [hR.1, hR.2]; decide) (Nat.zero_add _).symm (Nat.zero_add _).symm rfl (by simp [xv_cat, xv_ci, xv_cl, xv_cr, xv_cn]) dX1_takesAsk_144 (fun r93 h94 hn => ?_)
  clear hm
  have hm := hn
  clear hn
  obtain ⟨a103, rfl, hm⟩ := hm
  obtain ⟨⟨fs96, e96⟩, hm⟩ := hm
  obtain ⟨mc97, ms98, kc99, ks100, kk96, kl96, hm⟩ := hm
  refine xr_cVl (n := 0) (As := []) (st := [.int 8, va_rf r84]) C (c_X7_seal a103 h94 mc97 ms98 hm) e96 rfl wd_189 wd_191 wd_192 wd_30 wd_190 (by decide +kernel) rfl (by rw [hR.1, hR.2]; decide) kk96 kl96 rfl (by simp [xv_cat, xv_ci, xv_cl, xv_cr, xv_cn]) dX1_takesAsk_147 (fun y101 h102 hn => ?_)
  clear hm
  have hm := hn
  clear hn
  obtain ⟨a105, rfl, hm⟩ := hm
  obtain ⟨N104, f104, e104, b104, h106, v104, hm⟩ := hm
  refine xr_last C 1 rfl e104 b104 v104 dX1_takesAsk_150 ?_
  refine xr_aload_n (r := (some a0)) C dX1_takesAsk_151 0 rfl ?_
  refine xr_aload_n (r := rv1) C dX1_takesAsk_152 1 rfl ?_
  refine xr_bipush (v := 6) C dX1_takesAsk_153 rfl ?_
  obtain ⟨⟨fs107, e107⟩, hm⟩ := hm
  obtain ⟨mc108, ms109, kc110, ks111, kk107, kl107, hm⟩ := hm
  refine xr_cVv (n := 2) (As := [va_rf rv1, .int 6]) (st := []) C (c_X1_reply a0 rv1 6 h106 mc108 ms109 hm) e107 rfl wd_184 wd_186 wd_187 wd_188 wd_185 (by decide +kernel) rfl (by rw [hR.1, hR.2]; decide) kk107 kl107 rfl (Nat.le_of_ble_eq_true rfl) dX1_takesAsk_155 (fun h113 hn => ?_)
  clear hm
  have hm := hn
  clear hn
  refine xr_iconst (v := 1) C dX1_takesAsk_158 rfl ?_
  exact xr_zreturn C hr hlk (Or.inr rfl) hm dX1_takesAsk_159
set_option maxRecDepth 100000 in
set_option maxHeartbeats 4000000 in
theorem k_X1_takesAsk_L51 {p : Program} {l : Launch} {e : Env} {R : Room} {s : State} {m : MethodId} {args : Array Value} {below : List Frame} {meth : Method} {c : Code} {D : va_G} {E : Ev} {A : Nat → Prop} {KC KS : Nat} (C : XC p R s m args c D E A 3 RX1 cX1_takesAsk KC KS) (hr : meth.sig.returnType = (some .boolean)) (hlk : meth.locks = false) (hnm : meth.name = "takesAsk") (hR : R.frames = 8 ∧ R.locals = 213) {Q : Int32 → Hp → Prop} : ∀ (a0 : Nat) (rv1 : Option Nat) (xv2 : Int32) (h : Hp) (kc ks : Nat), m_X1_takesAsk_L51 E a0 rv1 xv2 h kc ks Q → XW p l e R s m args below meth c (MQ below (va_Qi Q (XPost D A) A) args s KC KS A) D A KC KS 3 h kc ks [(0, .ref a0), (1, va_rf rv1), (2, .int xv2)] 51 [] := by
  intro a0 rv1 xv2 h kc ks hm
  refine xr_aload_n (r := (some a0)) C dX1_takesAsk_51 0 rfl ?_
  refine xr_aload_n (r := rv1) C dX1_takesAsk_52 1 rfl ?_
  refine xr_iload_n C dX1_takesAsk_53 2 rfl ?_
  obtain ⟨⟨fs29, e29⟩, hm⟩ := hm
  obtain ⟨mc30, ms31, kc32, ks33, kk29, kl29, hm⟩ := hm
  refine xr_cVv (n := 2) (As := [va_rf rv1, .int xv2]) (st := []) C (c_X1_keepAsked a0 rv1 xv2 h mc30 ms31 hm) e29 rfl wd_233 wd_235 wd_236 wd_188 wd_234 (by decide +kernel) rfl (by rw [hR.1, hR.2]; decide) kk29 kl29 rfl (Nat.le_of_ble_eq_true rfl) dX1_takesAsk_54 (fun h35 hn => ?_)
  clear hm
  have hm := hn
  clear hn
  refine xr_aload_n (r := (some a0)) C dX1_takesAsk_57 0 rfl ?_
  refine xr_iload_n C dX1_takesAsk_58 2 rfl ?_
  refine xr_iconst (v := 1) C dX1_takesAsk_59 rfl ?_
  refine xr_icmp_ne (tgt := 67) C dX1_takesAsk_60 (by decide) (fun q36 => ?_) (fun q36 => ?_)
  · replace hm := hm.2 q36
    refine xr_iconst (v := 0) C dX1_takesAsk_67 rfl ?_
    exact k_X1_takesAsk_L68 C hr hlk hnm hR a0 rv1 xv2 0 (some a0) _ _ _ hm
  · replace hm := hm.1 q36
    refine xr_iconst (v := 2) C dX1_takesAsk_63 rfl ?_
    refine xr_goto (tgt := 68) C dX1_takesAsk_64 (by decide) ?_
    exact k_X1_takesAsk_L68 C hr hlk hnm hR a0 rv1 xv2 2 (some a0) _ _ _ hm
set_option maxRecDepth 100000 in
set_option maxHeartbeats 4000000 in
theorem c_X1_takesAsk {l : Launch} {D : va_G} {E : Ev} (a0 : Nat) (rp1 : Option Nat) (h : Hp) (kc ks : Nat) {Q : Int32 → Hp → Prop} (hm : m_X1_takesAsk E a0 rp1 h kc ks Q) : XMet l yX1_takesAsk cX1_takesAsk 3 (some .boolean) 8 213 kc ks D E h [.ref a0, va_rf rp1] (fun A => va_Qi Q (XPost D A) A) := by
  refine xm_of (lv0 := [(0, .ref a0), (1, va_rf rp1)]) (by decide) (by simp [lg_sl, xv_cat, xv_ci, xv_cl, xv_cr, xv_cn]) (by simp [lv_args, xv_cat, xv_ci, xv_cl, xv_cr, xv_cn]) RX1 rfl (fun p e s m args below meth c A R hRm C hr hlk hnm => ?_)
  have hR : R.frames = 8 ∧ R.locals = 213 := by rw [hRm]; exact ⟨rfl, rfl⟩
  refine xr_aload_n (r := (some a0)) C dX1_takesAsk_0 0 rfl ?_
  obtain ⟨fs1, x2, e1, f1, hm⟩ := hm
  refine xr_get (ci := 2) C 8 e1 f1 rfl inX1 (by decide) wd_19 dX1_takesAsk_1 ?_
  refine xr_iconst (v := 1) C dX1_takesAsk_4 rfl ?_
  refine xr_icmp_eq (tgt := 10) C dX1_takesAsk_5 (by decide) (fun q3 => ?_) (fun q3 => ?_)
  · replace hm := hm.1 q3
    refine xr_aload_n (r := (some a0)) C dX1_takesAsk_10 0 rfl ?_
    refine xr_aload_n (r := rp1) C dX1_takesAsk_11 1 rfl ?_
    refine xr_bipush (v := 7) C dX1_takesAsk_12 rfl ?_
    obtain ⟨a7, rfl, hm⟩ := hm
    obtain ⟨⟨fs4, e4⟩, hm⟩ := hm
    refine xr_cVi (n := 1) (As := [.int 7]) (st := [.ref a0]) C (c_X2_intField a7 7 h 0 0 hm) e4 rfl wd_216 wd_218 wd_219 wd_220 wd_217 (by decide +kernel) rfl (by rw [hR.1, hR.2]; decide) (Nat.zero_add _).symm (Nat.zero_add _).symm rfl (Nat.le_of_ble_eq_true rfl) dX1_takesAsk_14 (fun x5 h6 hn => ?_)
    clear hm
    have hm := hn
    clear hn
    refine xr_aload_n (r := (some a7)) C dX1_takesAsk_17 1 rfl ?_
    obtain ⟨fs8, r9, e8, f8, hm⟩ := hm
    refine xr_get (ci := 3) C 3 e8 f8 rfl inX2 (by decide) wd_182 dX1_takesAsk_18 ?_
    refine xr_iconst (v := 3) C dX1_takesAsk_21 rfl ?_
    obtain ⟨a11, rfl, hm⟩ := hm
    obtain ⟨N10, f10, y12, e10, b10, v10, hm⟩ := hm
    refine xr_lald C 1 rfl e10 b10 v10 dX1_takesAsk_22 ?_
    obtain ⟨⟨fs13, e13⟩, hm⟩ := hm
    refine xr_cVi (n := 2) (As := [.int x5, .long y12]) (st := []) C (c_X1_answerTo a0 x5 y12 h6 0 0 hm) e13 rfl wd_229 wd_231 wd_232 wd_188 wd_230 (by decide +kernel) rfl (by rw [hR.1, hR.2]; decide) (Nat.zero_add _).symm (Nat.zero_add _).symm rfl (Nat.le_of_ble_eq_true rfl) dX1_takesAsk_23 (fun x14 h15 hn => ?_)
    clear hm
    have hm := hn
    clear hn
    refine xr_istore_n (lv' := [(2, .int x14), (0, .ref a0), (1, .ref a7)]) C dX1_takesAsk_26 (by decide) rfl ?_
    refine xr_iload_n C dX1_takesAsk_27 0 rfl ?_
    refine xr_iconst (v := 2) C dX1_takesAsk_28 rfl ?_
    refine xr_icmp_ne (tgt := 51) C dX1_takesAsk_29 (by decide) (fun q16 => ?_) (fun q16 => ?_)
    · replace hm := hm.2 q16
      refine xr_sub [1, 2, 0] rfl ?_
      exact k_X1_takesAsk_L51 C hr hlk hnm hR a0 (some a7) x14 _ _ _ hm
    · replace hm := hm.1 q16
      refine xr_aload_n (r := (some a0)) C dX1_takesAsk_32 1 rfl ?_
      obtain ⟨⟨fs17, e17⟩, hm⟩ := hm
      obtain ⟨mc18, ms19, kc20, ks21, kk17, kl17, hm⟩ := hm
      refine xr_cVi (n := 0) (As := []) (st := []) C (c_X1_losesPower a0 h15 mc18 ms19 hm) e17 rfl wd_197 wd_199 wd_200 wd_188 wd_198 (by decide +kernel) rfl (by rw [hR.1, hR.2]; decide) kk17 kl17 rfl (Nat.le_of_ble_eq_true rfl) dX1_takesAsk_33 (fun x22 h23 hn => ?_)
      clear hm
      have hm := hn
      clear hn
      refine xr_if_eq (tgt := 41) C dX1_takesAsk_36 (by decide) (fun q24 => ?_) (fun q24 => ?_)
      · replace hm := hm.1 q24
        refine xr_aload_n (r := (some a0)) C dX1_takesAsk_41 1 rfl ?_
        refine xr_dup C dX1_takesAsk_42 rfl ?_
        obtain ⟨fs25, x26, e25, f25, hm⟩ := hm
        refine xr_get (ci := 2) C 7 e25 f25 rfl inX1 (by decide) wd_206 dX1_takesAsk_43 ?_
        refine xr_iconst (v := 1) C dX1_takesAsk_46 rfl ?_
        refine xr_iadd C dX1_takesAsk_47 ?_
        obtain ⟨fs27, e27, f27, h28, eh27, hm⟩ := hm
        refine xr_put (ci := 2) (v := .int (x26 + 1)) C 7 .int tyX1 tyX1_ok nmX1 e27 f27 rfl inX1 (by decide) wd_206 rfl (by decide) rfl rfl eh27 dX1_takesAsk_48 ?_
        refine xr_sub [1, 2, 0] rfl ?_
        exact k_X1_takesAsk_L51 C hr hlk hnm hR a0 (some a7) x14 _ _ _ hm
      · replace hm := hm.2 q24
        refine xr_iconst (v := 1) C dX1_takesAsk_39 rfl ?_
        exact xr_zreturn C hr hlk (Or.inr rfl) hm dX1_takesAsk_40
  · replace hm := hm.2 q3
    refine xr_iconst (v := 0) C dX1_takesAsk_8 rfl ?_
    exact xr_zreturn C hr hlk (Or.inl rfl) hm dX1_takesAsk_9
set_option maxRecDepth 100000 in
set_option maxHeartbeats 4000000 in
theorem c_X7_ofWordToCard {l : Launch} {D : va_G} {E : Ev} (a0 : Nat) (xp1 : Int32) (xp2 : Int32) (xp3 : Int32) (h : Hp) (kc ks : Nat) {Q : Option Nat → Hp → Prop} (hm : m_X7_ofWordToCard E a0 xp1 xp2 xp3 h kc ks Q) : XMet l yX7_ofWordToCard cX7_ofWordToCard 4 (some (.object "CardPayments$Seals")) 1 22 kc ks D E h [.ref a0, .int xp1, .int xp2, .int xp3] (fun A => va_Qq Q (XPost D A) A) := by
  refine xm_of (lv0 := [(0, .ref a0), (1, .int xp1), (2, .int xp2), (3, .int xp3)]) (by decide) (Nat.le_of_ble_eq_true rfl) rfl RX7 rfl (fun p e s m args below meth c A R hRm C hr hlk hnm => ?_)
  have hR : R.frames = 1 ∧ R.locals = 22 := by rw [hRm]; exact ⟨rfl, rfl⟩
  refine xr_aload_n (r := (some a0)) C dX7_ofWordToCard_0 0 rfl ?_
  refine xr_iconst (v := 2) C dX7_ofWordToCard_1 rfl ?_
  refine xr_iload_n C dX7_ofWordToCard_2 1 rfl ?_
  obtain ⟨⟨fs1, e1⟩, hm⟩ := hm
  refine xr_cVq (n := 2) (As := [.int 2, .int xp1]) (st := []) C (c_X7_key a0 2 xp1 h 0 0 hm) e1 rfl wd_31 wd_33 wd_34 wd_30 wd_32 (by decide +kernel) rfl (by rw [hR.1, hR.2]; decide) (Nat.zero_add _).symm (Nat.zero_add _).symm rfl (Nat.le_of_ble_eq_true rfl) dX7_ofWordToCard_3 (fun r2 h3 hn => ?_)
  clear hm
  have hm := hn
  clear hn
  refine xr_ldc2 (v := 8) C dX7_ofWordToCard_6 wd_241 ?_
  obtain ⟨a7, rfl, hm⟩ := hm
  obtain ⟨⟨fs4, e4⟩, hm⟩ := hm
  refine xr_cVq (n := 1) (As := [.long 8]) (st := []) C (c_X7_with a7 8 h3 0 0 hm) e4 rfl wd_26 wd_28 wd_29 wd_30 wd_27 (by decide +kernel) rfl (by rw [hR.1, hR.2]; decide) (Nat.zero_add _).symm (Nat.zero_add _).symm rfl (Nat.le_of_ble_eq_true rfl) dX7_ofWordToCard_9 (fun r5 h6 hn => ?_)
  clear hm
  have hm := hn
  clear hn
  refine xr_iload_n C dX7_ofWordToCard_12 1 rfl ?_
  refine xr_i2l (v := xp1.toInt64) C dX7_ofWordToCard_13 rfl ?_
  obtain ⟨a11, rfl, hm⟩ := hm
  obtain ⟨⟨fs8, e8⟩, hm⟩ := hm
  refine xr_cVq (n := 1) (As := [.long xp1.toInt64]) (st := []) C (c_X7_with a11 xp1.toInt64 h6 0 0 hm) e8 rfl wd_26 wd_28 wd_29 wd_30 wd_27 (by decide +kernel) rfl (by rw [hR.1, hR.2]; decide) (Nat.zero_add _).symm (Nat.zero_add _).symm rfl (Nat.le_of_ble_eq_true rfl) dX7_ofWordToCard_14 (fun r9 h10 hn => ?_)
  clear hm
  have hm := hn
  clear hn
  refine xr_iload_n C dX7_ofWordToCard_17 2 rfl ?_
  refine xr_i2l (v := xp2.toInt64) C dX7_ofWordToCard_18 rfl ?_
  obtain ⟨a15, rfl, hm⟩ := hm
  obtain ⟨⟨fs12, e12⟩, hm⟩ := hm
  refine xr_cVq (n := 1) (As := [.long xp2.toInt64]) (st := []) C (c_X7_with a15 xp2.toInt64 h10 0 0 hm) e12 rfl wd_26 wd_28 wd_29 wd_30 wd_27 (by decide +kernel) rfl (by rw [hR.1, hR.2]; decide) (Nat.zero_add _).symm (Nat.zero_add _).symm rfl (Nat.le_of_ble_eq_true rfl) dX7_ofWordToCard_19 (fun r13 h14 hn => ?_)
  clear hm
  have hm := hn
  clear hn
  refine xr_iload_n C dX7_ofWordToCard_22 3 rfl ?_
  refine xr_i2l (v := xp3.toInt64) C dX7_ofWordToCard_23 rfl ?_
  obtain ⟨a19, rfl, hm⟩ := hm
  obtain ⟨⟨fs16, e16⟩, hm⟩ := hm
  refine xr_cVq (n := 1) (As := [.long xp3.toInt64]) (st := []) C (c_X7_with a19 xp3.toInt64 h14 0 0 hm) e16 rfl wd_26 wd_28 wd_29 wd_30 wd_27 (by decide +kernel) rfl (by rw [hR.1, hR.2]; decide) (Nat.zero_add _).symm (Nat.zero_add _).symm rfl (Nat.le_of_ble_eq_true rfl) dX7_ofWordToCard_24 (fun r17 h18 hn => ?_)
  clear hm
  have hm := hn
  clear hn
  exact xr_areturn (r := r17) C hr (Or.inl ⟨_, rfl⟩) hlk hm dX7_ofWordToCard_27
set_option maxRecDepth 100000 in
set_option maxHeartbeats 4000000 in
theorem c_X7_isGood {l : Launch} {D : va_G} {E : Ev} (a0 : Nat) (yp1 : Int64) (h : Hp) (kc ks : Nat) {Q : Int32 → Hp → Prop} (hm : m_X7_isGood E a0 yp1 h kc ks Q) : XMet l yX7_isGood cX7_isGood 3 (some .boolean) 3 64 kc ks D E h [.ref a0, .long yp1] (fun A => va_Qi Q (XPost D A) A) := by
  refine xm_of (lv0 := [(0, .ref a0), (1, .long yp1)]) (by decide) (Nat.le_of_ble_eq_true rfl) rfl RX7 rfl (fun p e s m args below meth c A R hRm C hr hlk hnm => ?_)
  have hR : R.frames = 3 ∧ R.locals = 64 := by rw [hRm]; exact ⟨rfl, rfl⟩
  refine xr_lload_n C dX7_isGood_0 1 rfl ?_
  refine xr_lconst (v := 1) C dX7_isGood_1 rfl ?_
  refine xr_lcmp C dX7_isGood_2 ?_
  refine xr_if_lt (tgt := 44) C dX7_isGood_3 (by decide) (fun q1 => ?_) (fun q1 => ?_)
  · replace hm := hm.1 q1
    refine xr_iconst (v := 0) C dX7_isGood_44 rfl ?_
    exact xr_zreturn C hr hlk (Or.inl rfl) hm dX7_isGood_45
  · replace hm := hm.2 q1
    refine xr_lload_n C dX7_isGood_6 1 rfl ?_
    refine xr_aload_n (r := (some a0)) C dX7_isGood_7 0 rfl ?_
    obtain ⟨fs2, r3, e2, f2, hm⟩ := hm
    refine xr_get (ci := 8) C 0 e2 f2 rfl inX7 (by decide) wd_110 dX7_isGood_8 ?_
    obtain ⟨a7, rfl, hm⟩ := hm
    obtain ⟨⟨fs4, e4⟩, hm⟩ := hm
    refine xr_cVi (n := 0) (As := []) (st := [.long yp1]) C (c_Jx4a65c_size_8abf5 a7 h 0 0 hm) e4 rfl wd_111 wd_113 wd_114 wd_45 wd_112 (by decide +kernel) rfl (by rw [hR.1, hR.2]; decide) (Nat.zero_add _).symm (Nat.zero_add _).symm rfl (Nat.le_of_ble_eq_true rfl) dX7_isGood_11 (fun x5 h6 hn => ?_)
    clear hm
    have hm := hn
    clear hn
    refine xr_i2l (v := x5.toInt64) C dX7_isGood_14 rfl ?_
    refine xr_lcmp C dX7_isGood_15 ?_
    refine xr_if_gt (tgt := 44) C dX7_isGood_16 (by decide) (fun q8 => ?_) (fun q8 => ?_)
    · replace hm := hm.1 q8
      refine xr_iconst (v := 0) C dX7_isGood_44 rfl ?_
      exact xr_zreturn C hr hlk (Or.inl rfl) hm dX7_isGood_45
    · replace hm := hm.2 q8
      refine xr_aload_n (r := (some a0)) C dX7_isGood_19 0 rfl ?_
      refine xr_aload_n (r := (some a0)) C dX7_isGood_20 0 rfl ?_
      obtain ⟨fs9, r10, e9, f9, hm⟩ := hm
      refine xr_get (ci := 8) C 0 e9 f9 rfl inX7 (by decide) wd_110 dX7_isGood_21 ?_
      refine xr_lload_n C dX7_isGood_24 1 rfl ?_
      refine xr_l2i (v := yp1.toInt32) C dX7_isGood_25 rfl ?_
      refine xr_iconst (v := 1) C dX7_isGood_26 rfl ?_
      refine xr_isub C dX7_isGood_27 ?_
      obtain ⟨a14, rfl, hm⟩ := hm
      obtain ⟨⟨fs11, e11⟩, hm⟩ := hm
      refine xr_cVq (n := 1) (As := [.int (yp1.toInt32 - 1)]) (st := [.ref a0]) C (c_Jx4a65c_get_915e3 a14 (yp1.toInt32 - 1) h6 0 0 hm) e11 rfl wd_132 wd_134 wd_135 wd_45 wd_133 (by decide +kernel) rfl (by rw [hR.1, hR.2]; decide) (Nat.zero_add _).symm (Nat.zero_add _).symm rfl (Nat.le_of_ble_eq_true rfl) dX7_isGood_28 (fun r12 h13 hn => ?_)
      clear hm
      have hm := hn
      clear hn
      obtain ⟨a16, rfl, hm⟩ := hm
      obtain ⟨⟨fs15, e15⟩, hm⟩ := hm
      refine xr_cast C e15 rfl wd_126 dX7_isGood_31 ?_
      obtain ⟨⟨fs17, e17⟩, hm⟩ := hm
      refine xr_cVi (n := 1) (As := [.ref a16]) (st := []) C (c_X7_isTheirs a0 (some a16) h13 0 0 hm) e17 rfl wd_128 wd_130 wd_131 wd_30 wd_129 (by decide +kernel) rfl (by rw [hR.1, hR.2]; decide) (Nat.zero_add _).symm (Nat.zero_add _).symm rfl (Nat.le_of_ble_eq_true rfl) dX7_isGood_34 (fun x18 h19 hn => ?_)
      clear hm
      have hm := hn
      clear hn
      refine xr_if_eq (tgt := 44) C dX7_isGood_37 (by decide) (fun q20 => ?_) (fun q20 => ?_)
      · replace hm := hm.1 q20
        refine xr_iconst (v := 0) C dX7_isGood_44 rfl ?_
        exact xr_zreturn C hr hlk (Or.inl rfl) hm dX7_isGood_45
      · replace hm := hm.2 q20
        refine xr_iconst (v := 1) C dX7_isGood_40 rfl ?_
        refine xr_goto (tgt := 45) C dX7_isGood_41 (by decide) ?_
        exact xr_zreturn C hr hlk (Or.inr rfl) hm dX7_isGood_45
set_option maxRecDepth 100000 in
set_option maxHeartbeats 4000000 in
theorem c_X1_isApproved {l : Launch} {D : va_G} {E : Ev} (a0 : Nat) (rp1 : Option Nat) (h : Hp) (kc ks : Nat) {Q : Int32 → Hp → Prop} (hm : m_X1_isApproved E a0 rp1 h kc ks Q) : XMet l yX1_isApproved cX1_isApproved 2 (some .boolean) 4 86 kc ks D E h [.ref a0, va_rf rp1] (fun A => va_Qi Q (XPost D A) A) := by
  refine xm_of (lv0 := [(0, .ref a0), (1, va_rf rp1)]) (by decide) (by simp [lg_sl, xv_cat, xv_ci, xv_cl, xv_cr, xv_cn]) (by simp [lv_args, xv_cat, xv_ci, xv_cl, xv_cr, xv_cn]) RX1 rfl (fun p e s m args below meth c A R hRm C hr hlk hnm => ?_)
  have hR : R.frames = 4 ∧ R.locals = 86 := by rw [hRm]; exact ⟨rfl, rfl⟩
  refine xr_aload_n (r := rp1) C dX1_isApproved_0 1 rfl ?_
  obtain ⟨a2, rfl, hm⟩ := hm
  obtain ⟨fs1, r3, e1, f1, hm⟩ := hm
  refine xr_get (ci := 3) C 3 e1 f1 rfl inX2 (by decide) wd_182 dX1_isApproved_1 ?_
  refine xr_bipush (v := 10) C dX1_isApproved_4 rfl ?_
  obtain ⟨a5, rfl, hm⟩ := hm
  obtain ⟨N4, f4, y6, e4, b4, v4, hm⟩ := hm
  refine xr_lald C 1 rfl e4 b4 v4 dX1_isApproved_6 ?_
  refine xr_lconst (v := 1) C dX1_isApproved_7 rfl ?_
  refine xr_lcmp C dX1_isApproved_8 ?_
  refine xr_if_ne (tgt := 48) C dX1_isApproved_9 (by decide) (fun q7 => ?_) (fun q7 => ?_)
  · replace hm := hm.2 q7
    refine xr_iconst (v := 0) C dX1_isApproved_48 rfl ?_
    exact xr_zreturn C hr hlk (Or.inl rfl) hm dX1_isApproved_49
  · replace hm := hm.1 q7
    refine xr_aload_n (r := (some a0)) C dX1_isApproved_12 0 rfl ?_
    obtain ⟨fs8, r9, e8, f8, hm⟩ := hm
    refine xr_get (ci := 2) C 0 e8 f8 rfl inX1 (by decide) wd_9 dX1_isApproved_13 ?_
    obtain ⟨a11, rfl, hm⟩ := hm
    obtain ⟨fs10, r12, e10, f10, hm⟩ := hm
    refine xr_get (ci := 11) C 1 e10 f10 rfl inX10 (by decide) wd_183 dX1_isApproved_16 ?_
    refine xr_aload_n (r := (some a0)) C dX1_isApproved_19 0 rfl ?_
    obtain ⟨fs13, x14, e13, f13, hm⟩ := hm
    refine xr_get (ci := 2) C 1 e13 f13 rfl inX1 (by decide) wd_10 dX1_isApproved_20 ?_
    refine xr_aload_n (r := (some a0)) C dX1_isApproved_23 0 rfl ?_
    obtain ⟨fs15, x16, e15, f15, hm⟩ := hm
    refine xr_get (ci := 2) C 5 e15 f15 rfl inX1 (by decide) wd_179 dX1_isApproved_24 ?_
    refine xr_iconst (v := 1) C dX1_isApproved_27 rfl ?_
    obtain ⟨a20, rfl, hm⟩ := hm
    obtain ⟨⟨fs17, e17⟩, hm⟩ := hm
    refine xr_cVq (n := 3) (As := [.int x14, .int x16, .int 1]) (st := []) C (c_X7_ofWordToCard a20 x14 x16 1 h 0 0 hm) e17 rfl wd_246 wd_248 wd_249 wd_30 wd_247 (by decide +kernel) rfl (by rw [hR.1, hR.2]; decide) (Nat.zero_add _).symm (Nat.zero_add _).symm rfl (Nat.le_of_ble_eq_true rfl) dX1_isApproved_28 (fun r18 h19 hn => ?_)
    clear hm
    have hm := hn
    clear hn
    refine xr_aload_n (r := (some a2)) C dX1_isApproved_31 1 rfl ?_
    obtain ⟨fs21, r22, e21, f21, hm⟩ := hm
    refine xr_get (ci := 3) C 3 e21 f21 rfl inX2 (by decide) wd_182 dX1_isApproved_32 ?_
    refine xr_bipush (v := 8) C dX1_isApproved_35 rfl ?_
    obtain ⟨a24, rfl, hm⟩ := hm
    obtain ⟨N23, f23, y25, e23, b23, v23, hm⟩ := hm
    refine xr_lald C 1 rfl e23 b23 v23 dX1_isApproved_37 ?_
    obtain ⟨a29, rfl, hm⟩ := hm
    obtain ⟨⟨fs26, e26⟩, hm⟩ := hm
    refine xr_cVi (n := 1) (As := [.long y25]) (st := []) C (c_X7_isGood a29 y25 h19 0 0 hm) e26 rfl wd_242 wd_244 wd_245 wd_30 wd_243 (by decide +kernel) rfl (by rw [hR.1, hR.2]; decide) (Nat.zero_add _).symm (Nat.zero_add _).symm rfl (Nat.le_of_ble_eq_true rfl) dX1_isApproved_38 (fun x27 h28 hn => ?_)
    clear hm
    have hm := hn
    clear hn
    refine xr_if_eq (tgt := 48) C dX1_isApproved_41 (by decide) (fun q30 => ?_) (fun q30 => ?_)
    · replace hm := hm.1 q30
      refine xr_iconst (v := 0) C dX1_isApproved_48 rfl ?_
      exact xr_zreturn C hr hlk (Or.inl rfl) hm dX1_isApproved_49
    · replace hm := hm.2 q30
      refine xr_iconst (v := 1) C dX1_isApproved_44 rfl ?_
      refine xr_goto (tgt := 49) C dX1_isApproved_45 (by decide) ?_
      exact xr_zreturn C hr hlk (Or.inr rfl) hm dX1_isApproved_49
set_option maxRecDepth 100000 in
set_option maxHeartbeats 4000000 in
theorem c_X7_ofLast {l : Launch} {D : va_G} {E : Ev} (a0 : Nat) (rp1 : Option Nat) (xp2 : Int32) (h : Hp) (kc ks : Nat) {Q : Option Nat → Hp → Prop} (hm : m_X7_ofLast E a0 rp1 xp2 h kc ks Q) : XMet l yX7_ofLast cX7_ofLast 3 (some (.object "CardPayments$Seals")) 1 22 kc ks D E h [.ref a0, va_rf rp1, .int xp2] (fun A => va_Qq Q (XPost D A) A) := by
  refine xm_of (lv0 := [(0, .ref a0), (1, va_rf rp1), (2, .int xp2)]) (by decide) (by simp [lg_sl, xv_cat, xv_ci, xv_cl, xv_cr, xv_cn]) (by simp [lv_args, xv_cat, xv_ci, xv_cl, xv_cr, xv_cn]) RX7 rfl (fun p e s m args below meth c A R hRm C hr hlk hnm => ?_)
  have hR : R.frames = 1 ∧ R.locals = 22 := by rw [hRm]; exact ⟨rfl, rfl⟩
  refine xr_aload_n (r := (some a0)) C dX7_ofLast_0 0 rfl ?_
  refine xr_iconst (v := 0) C dX7_ofLast_1 rfl ?_
  refine xr_aload_n (r := rp1) C dX7_ofLast_2 1 rfl ?_
  obtain ⟨a2, rfl, hm⟩ := hm
  obtain ⟨fs1, x3, e1, f1, hm⟩ := hm
  refine xr_get (ci := 6) C 0 e1 f1 rfl inX5 (by decide) wd_221 dX7_ofLast_3 ?_
  obtain ⟨⟨fs4, e4⟩, hm⟩ := hm
  refine xr_cVq (n := 2) (As := [.int 0, .int x3]) (st := []) C (c_X7_key a0 0 x3 h 0 0 hm) e4 rfl wd_31 wd_33 wd_34 wd_30 wd_32 (by decide +kernel) rfl (by rw [hR.1, hR.2]; decide) (Nat.zero_add _).symm (Nat.zero_add _).symm rfl (Nat.le_of_ble_eq_true rfl) dX7_ofLast_6 (fun r5 h6 hn => ?_)
  clear hm
  have hm := hn
  clear hn
  refine xr_ldc2 (v := 10) C dX7_ofLast_9 wd_250 ?_
  obtain ⟨a10, rfl, hm⟩ := hm
  obtain ⟨⟨fs7, e7⟩, hm⟩ := hm
  refine xr_cVq (n := 1) (As := [.long 10]) (st := []) C (c_X7_with a10 10 h6 0 0 hm) e7 rfl wd_26 wd_28 wd_29 wd_30 wd_27 (by decide +kernel) rfl (by rw [hR.1, hR.2]; decide) (Nat.zero_add _).symm (Nat.zero_add _).symm rfl (Nat.le_of_ble_eq_true rfl) dX7_ofLast_12 (fun r8 h9 hn => ?_)
  clear hm
  have hm := hn
  clear hn
  refine xr_iload_n C dX7_ofLast_15 2 rfl ?_
  refine xr_i2l (v := xp2.toInt64) C dX7_ofLast_16 rfl ?_
  obtain ⟨a14, rfl, hm⟩ := hm
  obtain ⟨⟨fs11, e11⟩, hm⟩ := hm
  refine xr_cVq (n := 1) (As := [.long xp2.toInt64]) (st := []) C (c_X7_with a14 xp2.toInt64 h9 0 0 hm) e11 rfl wd_26 wd_28 wd_29 wd_30 wd_27 (by decide +kernel) rfl (by rw [hR.1, hR.2]; decide) (Nat.zero_add _).symm (Nat.zero_add _).symm rfl (Nat.le_of_ble_eq_true rfl) dX7_ofLast_17 (fun r12 h13 hn => ?_)
  clear hm
  have hm := hn
  clear hn
  refine xr_aload_n (r := (some a2)) C dX7_ofLast_20 1 rfl ?_
  obtain ⟨fs15, y16, e15, f15, hm⟩ := hm
  refine xr_get (ci := 6) C 2 e15 f15 rfl inX5 (by decide) wd_224 dX7_ofLast_21 ?_
  obtain ⟨a20, rfl, hm⟩ := hm
  obtain ⟨⟨fs17, e17⟩, hm⟩ := hm
  refine xr_cVq (n := 1) (As := [.long y16]) (st := []) C (c_X7_with a20 y16 h13 0 0 hm) e17 rfl wd_26 wd_28 wd_29 wd_30 wd_27 (by decide +kernel) rfl (by rw [hR.1, hR.2]; decide) (Nat.zero_add _).symm (Nat.zero_add _).symm rfl (Nat.le_of_ble_eq_true rfl) dX7_ofLast_24 (fun r18 h19 hn => ?_)
  clear hm
  have hm := hn
  clear hn
  refine xr_aload_n (r := (some a2)) C dX7_ofLast_27 1 rfl ?_
  obtain ⟨fs21, y22, e21, f21, hm⟩ := hm
  refine xr_get (ci := 6) C 3 e21 f21 rfl inX5 (by decide) wd_225 dX7_ofLast_28 ?_
  obtain ⟨a26, rfl, hm⟩ := hm
  obtain ⟨⟨fs23, e23⟩, hm⟩ := hm
  refine xr_cVq (n := 1) (As := [.long y22]) (st := []) C (c_X7_with a26 y22 h19 0 0 hm) e23 rfl wd_26 wd_28 wd_29 wd_30 wd_27 (by decide +kernel) rfl (by rw [hR.1, hR.2]; decide) (Nat.zero_add _).symm (Nat.zero_add _).symm rfl (Nat.le_of_ble_eq_true rfl) dX7_ofLast_31 (fun r24 h25 hn => ?_)
  clear hm
  have hm := hn
  clear hn
  refine xr_aload_n (r := (some a2)) C dX7_ofLast_34 1 rfl ?_
  obtain ⟨fs27, x28, e27, f27, hm⟩ := hm
  refine xr_get (ci := 6) C 4 e27 f27 rfl inX5 (by decide) wd_226 dX7_ofLast_35 ?_
  refine xr_i2l (v := x28.toInt64) C dX7_ofLast_38 rfl ?_
  obtain ⟨a32, rfl, hm⟩ := hm
  obtain ⟨⟨fs29, e29⟩, hm⟩ := hm
  refine xr_cVq (n := 1) (As := [.long x28.toInt64]) (st := []) C (c_X7_with a32 x28.toInt64 h25 0 0 hm) e29 rfl wd_26 wd_28 wd_29 wd_30 wd_27 (by decide +kernel) rfl (by rw [hR.1, hR.2]; decide) (Nat.zero_add _).symm (Nat.zero_add _).symm rfl (Nat.le_of_ble_eq_true rfl) dX7_ofLast_39 (fun r30 h31 hn => ?_)
  clear hm
  have hm := hn
  clear hn
  refine xr_aload_n (r := (some a2)) C dX7_ofLast_42 1 rfl ?_
  obtain ⟨fs33, x34, e33, f33, hm⟩ := hm
  refine xr_get (ci := 6) C 1 e33 f33 rfl inX5 (by decide) wd_227 dX7_ofLast_43 ?_
  refine xr_i2l (v := x34.toInt64) C dX7_ofLast_46 rfl ?_
  obtain ⟨a38, rfl, hm⟩ := hm
  obtain ⟨⟨fs35, e35⟩, hm⟩ := hm
  refine xr_cVq (n := 1) (As := [.long x34.toInt64]) (st := []) C (c_X7_with a38 x34.toInt64 h31 0 0 hm) e35 rfl wd_26 wd_28 wd_29 wd_30 wd_27 (by decide +kernel) rfl (by rw [hR.1, hR.2]; decide) (Nat.zero_add _).symm (Nat.zero_add _).symm rfl (Nat.le_of_ble_eq_true rfl) dX7_ofLast_47 (fun r36 h37 hn => ?_)
  clear hm
  have hm := hn
  clear hn
  exact xr_areturn (r := r36) C hr (Or.inl ⟨_, rfl⟩) hlk hm dX7_ofLast_50
set_option maxRecDepth 100000 in
set_option maxHeartbeats 4000000 in
theorem k_X1_takesEnd_L43 {p : Program} {l : Launch} {e : Env} {R : Room} {s : State} {m : MethodId} {args : Array Value} {below : List Frame} {meth : Method} {c : Code} {D : va_G} {E : Ev} {A : Nat → Prop} {KC KS : Nat} (C : XC p R s m args c D E A 3 RX1 cX1_takesEnd KC KS) (hr : meth.sig.returnType = (some .boolean)) (hlk : meth.locks = false) (hnm : meth.name = "takesEnd") (hR : R.frames = 8 ∧ R.locals = 212) {Q : Int32 → Hp → Prop} : ∀ (a0 : Nat) (rv1 : Option Nat) (xv2 : Int32) (h : Hp) (kc ks : Nat), m_X1_takesEnd_L43 E a0 rv1 xv2 h kc ks Q → XW p l e R s m args below meth c (MQ below (va_Qi Q (XPost D A) A) args s KC KS A) D A KC KS 3 h kc ks [(0, .ref a0), (1, va_rf rv1), (2, .int xv2)] 43 [] := by
  intro a0 rv1 xv2 h kc ks hm
  refine xr_aload_n (r := (some a0)) C dX1_takesEnd_43 0 rfl ?_
  refine xr_iconst (v := 0) C dX1_takesEnd_44 rfl ?_
  obtain ⟨fs19, e19, f19, h20, eh19, hm⟩ := hm
  refine xr_put (ci := 2) (v := .int 0) C 8 .int tyX1 tyX1_ok nmX1 e19 f19 rfl inX1 (by decide) wd_19 rfl (by decide) rfl rfl eh19 dX1_takesEnd_45 ?_
  refine xr_aload_n (r := (some a0)) C dX1_takesEnd_48 0 rfl ?_
  obtain ⟨fs21, r22, e21, f21, hm⟩ := hm
  refine xr_get (ci := 2) C 0 e21 f21 rfl inX1 (by decide) wd_9 dX1_takesEnd_49 ?_
  obtain ⟨a24, rfl, hm⟩ := hm
  obtain ⟨fs23, r25, e23, f23, hm⟩ := hm
  refine xr_get (ci := 11) C 7 e23 f23 rfl inX10 (by decide) wd_181 dX1_takesEnd_52 ?_
  obtain ⟨a27, rfl, hm⟩ := hm
  obtain ⟨fs26, r28, e26, f26, hm⟩ := hm
  refine xr_get (ci := 3) C 3 e26 f26 rfl inX2 (by decide) wd_182 dX1_takesEnd_55 ?_
  refine xr_bipush (v := 7) C dX1_takesEnd_58 rfl ?_
  refine xr_iload_n C dX1_takesEnd_60 2 rfl ?_
  refine xr_i2l (v := xv2.toInt64) C dX1_takesEnd_61 rfl ?_
  obtain ⟨a30, rfl, hm⟩ := hm
  obtain ⟨N29, f29, e29, b29, h31, v29, hm⟩ := hm
  refine xr_last C 1 rfl e29 b29 v29 dX1_takesEnd_62 ?_
  refine xr_aload_n (r := (some a0)) C dX1_takesEnd_63 0 rfl ?_
  obtain ⟨fs32, r33, e32, f32, hm⟩ := hm
  refine xr_get (ci := 2) C 0 e32 f32 rfl inX1 (by decide) wd_9 dX1_takesEnd_64 ?_
  obtain ⟨a35, rfl, hm⟩ := hm
  obtain ⟨fs34, r36, e34, f34, hm⟩ := hm
  refine xr_get (ci := 11) C 7 e34 f34 rfl inX10 (by decide) wd_181 dX1_takesEnd_67 ?_
  obtain ⟨a38, rfl, hm⟩ := hm
  obtain ⟨fs37, r39, e37, f37, hm⟩ := hm
  refine xr_get (ci := 3) C 3 e37 f37 rfl inX2 (by decide) wd_182 dX1_takesEnd_70 ?_
  refine xr_bipush (v := 8) C dX1_takesEnd_73 rfl ?_
  refine xr_aload_n (r := (some a0)) C dX1_takesEnd_75 0 rfl ?_
  obtain ⟨fs40, r41, e40, f40, hm⟩ := hm
  refine xr_get (ci := 2) C 0 e40 f40 rfl inX1 (by decide) wd_9 dX1_takesEnd_76 ?_
  obtain ⟨a43, rfl, hm⟩ := hm
  obtain ⟨fs42, r44, e42, f42, hm⟩ := hm
  refine xr_get (ci := 11) C 1 e42 f42 rfl inX10 (by decide) wd_183 dX1_takesEnd_79 ?_
  refine xr_aload_n (r := (some a0)) C dX1_takesEnd_82 0 rfl ?_
  obtain ⟨fs45, r46, e45, f45, hm⟩ := hm
  refine xr_get (ci := 2) C 11 e45 f45 rfl inX1 (by decide) wd_8 dX1_takesEnd_83 ?_
  refine xr_iload_n C dX1_takesEnd_86 2 rfl ?_
  obtain ⟨a50, rfl, hm⟩ := hm
  obtain ⟨⟨fs47, e47⟩, hm⟩ := hm
  refine xr_cVq (n := 2) (As := [va_rf r46, .int xv2]) (st := [.int 8, va_rf r39]) C (c_X7_ofLast a50 r46 xv2 h31 0 0 hm) e47 rfl wd_255 wd_257 wd_258 wd_30 wd_256 (by decide +kernel) rfl (by rw [hR.1, hR.2]; decide) (Nat.zero_add _).symm (Nat.zero_add _).symm rfl (by simp [xv_cat, xv_ci, xv_cl, xv_cr, xv_cn]) dX1_takesEnd_87 (fun r48 h49 hn => ?_)
  clear hm
  have hm := hn
  clear hn
  obtain ⟨a58, rfl, hm⟩ := hm
  obtain ⟨⟨fs51, e51⟩, hm⟩ := hm
  obtain ⟨mc52, ms53, kc54, ks55, kk51, kl51, hm⟩ := hm
  refine xr_cVl (n := 0) (As := []) (st := [.int 8, va_rf r39]) C (c_X7_seal a58 h49 mc52 ms53 hm) e51 rfl wd_189 wd_191 wd_192 wd_30 wd_190 (by decide +kernel) rfl (by rw [hR.1, hR.2]; decide) kk51 kl51 rfl (by simp [xv_cat, xv_ci, xv_cl, xv_cr, xv_cn]) dX1_takesEnd_90 (fun y56 h57 hn => ?_)
  clear hm
  have hm := hn
  clear hn
  obtain ⟨a60, rfl, hm⟩ := hm
  obtain ⟨N59, f59, e59, b59, h61, v59, hm⟩ := hm
  refine xr_last C 1 rfl e59 b59 v59 dX1_takesEnd_93 ?_
  refine xr_aload_n (r := (some a0)) C dX1_takesEnd_94 0 rfl ?_
  refine xr_aload_n (r := rv1) C dX1_takesEnd_95 1 rfl ?_
  refine xr_bipush (v := 10) C dX1_takesEnd_96 rfl ?_
  obtain ⟨⟨fs62, e62⟩, hm⟩ := hm
  obtain ⟨mc63, ms64, kc65, ks66, kk62, kl62, hm⟩ := hm
  refine xr_cVv (n := 2) (As := [va_rf rv1, .int 10]) (st := []) C (c_X1_reply a0 rv1 10 h61 mc63 ms64 hm) e62 rfl wd_184 wd_186 wd_187 wd_188 wd_185 (by decide +kernel) rfl (by rw [hR.1, hR.2]; decide) kk62 kl62 rfl (Nat.le_of_ble_eq_true rfl) dX1_takesEnd_98 (fun h68 hn => ?_)
  clear hm
  have hm := hn
  clear hn
  refine xr_iconst (v := 1) C dX1_takesEnd_101 rfl ?_
  exact xr_zreturn C hr hlk (Or.inr rfl) hm dX1_takesEnd_102
set_option maxRecDepth 100000 in
set_option maxHeartbeats 4000000 in
theorem k_X1_takesEnd_L23 {p : Program} {l : Launch} {e : Env} {R : Room} {s : State} {m : MethodId} {args : Array Value} {below : List Frame} {meth : Method} {c : Code} {D : va_G} {E : Ev} {A : Nat → Prop} {KC KS : Nat} (C : XC p R s m args c D E A 3 RX1 cX1_takesEnd KC KS) (hr : meth.sig.returnType = (some .boolean)) (hlk : meth.locks = false) (hnm : meth.name = "takesEnd") (hR : R.frames = 8 ∧ R.locals = 212) {Q : Int32 → Hp → Prop} : ∀ (a0 : Nat) (rv1 : Option Nat) (s0 : Int32) (h : Hp) (kc ks : Nat), m_X1_takesEnd_L23 E a0 rv1 s0 h kc ks Q → XW p l e R s m args below meth c (MQ below (va_Qi Q (XPost D A) A) args s KC KS A) D A KC KS 3 h kc ks [(0, .ref a0), (1, va_rf rv1)] 23 [.int s0] := by
  intro a0 rv1 s0 h kc ks hm
  refine xr_istore_n (lv' := [(2, .int s0), (0, .ref a0), (1, va_rf rv1)]) C dX1_takesEnd_23 (by decide) (by simp [xv_put1, xv_cat, xv_ci, xv_cl, xv_cr, xv_cn] <;> decide) ?_
  refine xr_iload_n C dX1_takesEnd_24 0 rfl ?_
  refine xr_iconst (v := 2) C dX1_takesEnd_25 rfl ?_
  refine xr_icmp_ne (tgt := 43) C dX1_takesEnd_26 (by decide) (fun q8 => ?_) (fun q8 => ?_)
  · replace hm := hm.2 q8
    refine xr_sub [1, 2, 0] rfl ?_
    exact k_X1_takesEnd_L43 C hr hlk hnm hR a0 rv1 s0 _ _ _ hm
  · replace hm := hm.1 q8
    refine xr_aload_n (r := (some a0)) C dX1_takesEnd_29 1 rfl ?_
    obtain ⟨⟨fs9, e9⟩, hm⟩ := hm
    obtain ⟨mc10, ms11, kc12, ks13, kk9, kl9, hm⟩ := hm
    refine xr_cVi (n := 0) (As := []) (st := []) C (c_X1_losesPower a0 h mc10 ms11 hm) e9 rfl wd_197 wd_199 wd_200 wd_188 wd_198 (by decide +kernel) rfl (by rw [hR.1, hR.2]; decide) kk9 kl9 rfl (Nat.le_of_ble_eq_true rfl) dX1_takesEnd_30 (fun x14 h15 hn => ?_)
    clear hm
    have hm := hn
    clear hn
    refine xr_if_eq (tgt := 38) C dX1_takesEnd_33 (by decide) (fun q16 => ?_) (fun q16 => ?_)
    · replace hm := hm.1 q16
      refine xr_aload_n (r := (some a0)) C dX1_takesEnd_38 1 rfl ?_
      refine xr_iconst (v := 0) C dX1_takesEnd_39 rfl ?_
      obtain ⟨fs17, e17, f17, h18, eh17, hm⟩ := hm
      refine xr_put (ci := 2) (v := .int 0) C 7 .int tyX1 tyX1_ok nmX1 e17 f17 rfl inX1 (by decide) wd_206 rfl (by decide) rfl rfl eh17 dX1_takesEnd_40 ?_
      refine xr_sub [1, 2, 0] rfl ?_
      exact k_X1_takesEnd_L43 C hr hlk hnm hR a0 rv1 s0 _ _ _ hm
    · replace hm := hm.2 q16
      refine xr_iconst (v := 1) C dX1_takesEnd_36 rfl ?_
      exact xr_zreturn C hr hlk (Or.inr rfl) hm dX1_takesEnd_37
set_option maxRecDepth 100000 in
set_option maxHeartbeats 4000000 in
theorem c_X1_takesEnd {l : Launch} {D : va_G} {E : Ev} (a0 : Nat) (rp1 : Option Nat) (h : Hp) (kc ks : Nat) {Q : Int32 → Hp → Prop} (hm : m_X1_takesEnd E a0 rp1 h kc ks Q) : XMet l yX1_takesEnd cX1_takesEnd 3 (some .boolean) 8 212 kc ks D E h [.ref a0, va_rf rp1] (fun A => va_Qi Q (XPost D A) A) := by
  refine xm_of (lv0 := [(0, .ref a0), (1, va_rf rp1)]) (by decide) (by simp [lg_sl, xv_cat, xv_ci, xv_cl, xv_cr, xv_cn]) (by simp [lv_args, xv_cat, xv_ci, xv_cl, xv_cr, xv_cn]) RX1 rfl (fun p e s m args below meth c A R hRm C hr hlk hnm => ?_)
  have hR : R.frames = 8 ∧ R.locals = 212 := by rw [hRm]; exact ⟨rfl, rfl⟩
  refine xr_aload_n (r := (some a0)) C dX1_takesEnd_0 0 rfl ?_
  obtain ⟨fs1, x2, e1, f1, hm⟩ := hm
  refine xr_get (ci := 2) C 8 e1 f1 rfl inX1 (by decide) wd_19 dX1_takesEnd_1 ?_
  refine xr_iconst (v := 2) C dX1_takesEnd_4 rfl ?_
  refine xr_icmp_eq (tgt := 10) C dX1_takesEnd_5 (by decide) (fun q3 => ?_) (fun q3 => ?_)
  · replace hm := hm.1 q3
    refine xr_aload_n (r := (some a0)) C dX1_takesEnd_10 0 rfl ?_
    refine xr_aload_n (r := rp1) C dX1_takesEnd_11 1 rfl ?_
    obtain ⟨⟨fs4, e4⟩, hm⟩ := hm
    refine xr_cVi (n := 1) (As := [va_rf rp1]) (st := []) C (c_X1_isApproved a0 rp1 h 0 0 hm) e4 rfl wd_251 wd_253 wd_254 wd_188 wd_252 (by decide +kernel) rfl (by rw [hR.1, hR.2]; decide) (Nat.zero_add _).symm (Nat.zero_add _).symm rfl (Nat.le_of_ble_eq_true rfl) dX1_takesEnd_12 (fun x5 h6 hn => ?_)
    clear hm
    have hm := hn
    clear hn
    refine xr_if_eq (tgt := 22) C dX1_takesEnd_15 (by decide) (fun q7 => ?_) (fun q7 => ?_)
    · replace hm := hm.1 q7
      refine xr_iconst (v := 0) C dX1_takesEnd_22 rfl ?_
      exact k_X1_takesEnd_L23 C hr hlk hnm hR a0 rp1 0 _ _ _ hm
    · replace hm := hm.2 q7
      refine xr_iconst (v := 2) C dX1_takesEnd_18 rfl ?_
      refine xr_goto (tgt := 23) C dX1_takesEnd_19 (by decide) ?_
      exact k_X1_takesEnd_L23 C hr hlk hnm hR a0 rp1 2 _ _ _ hm
  · replace hm := hm.2 q3
    refine xr_iconst (v := 0) C dX1_takesEnd_8 rfl ?_
    exact xr_zreturn C hr hlk (Or.inl rfl) hm dX1_takesEnd_9
