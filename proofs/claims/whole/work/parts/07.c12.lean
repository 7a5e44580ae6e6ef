set_option maxRecDepth 100000 in
set_option maxHeartbeats 4000000 in
theorem c_J9_max_7cf53 {l : Launch} {D : va_G} {E : Ev} (xp0 : Int32) (xp1 : Int32) (h : Hp) (kc ks : Nat) {Q : Int32 → Hp → Prop} (hm : m_J9_max_7cf53 E xp0 xp1 h kc ks Q) : XMet l yJ9_max_7cf53 cJ9_max_7cf53 2 (some .int) 0 0 kc ks D E h [.int xp0, .int xp1] (fun A => va_Qi Q (XPost D A) A) := by
  refine xm_of (lv0 := [(0, .int xp0), (1, .int xp1)]) (by decide) (Nat.le_of_ble_eq_true rfl) rfl RJ9 rfl (fun p e s m args below meth c A R hRm C hr hlk hnm => ?_)
  have hR : R.frames = 0 ∧ R.locals = 0 := by rw [hRm]; exact ⟨rfl, rfl⟩
  refine xr_iload_n C dJ9_max_7cf53_0 0 rfl ?_
  refine xr_iload_n C dJ9_max_7cf53_1 1 rfl ?_
  refine xr_icmp_lt (tgt := 9) C dJ9_max_7cf53_2 (by decide) (fun q1 => ?_) (fun q1 => ?_)
  · replace hm := hm.1 q1
    refine xr_iload_n C dJ9_max_7cf53_9 1 rfl ?_
    exact xr_ireturn C hr hlk hm dJ9_max_7cf53_10
  · replace hm := hm.2 q1
    refine xr_iload_n C dJ9_max_7cf53_5 0 rfl ?_
    refine xr_goto (tgt := 10) C dJ9_max_7cf53_6 (by decide) ?_
    exact xr_ireturn C hr hlk hm dJ9_max_7cf53_10
set_option maxRecDepth 100000 in
set_option maxHeartbeats 4000000 in
theorem c_J9_min_7cf53 {l : Launch} {D : va_G} {E : Ev} (xp0 : Int32) (xp1 : Int32) (h : Hp) (kc ks : Nat) {Q : Int32 → Hp → Prop} (hm : m_J9_min_7cf53 E xp0 xp1 h kc ks Q) : XMet l yJ9_min_7cf53 cJ9_min_7cf53 2 (some .int) 0 0 kc ks D E h [.int xp0, .int xp1] (fun A => va_Qi Q (XPost D A) A) := by
  refine xm_of (lv0 := [(0, .int xp0), (1, .int xp1)]) (by decide) (Nat.le_of_ble_eq_true rfl) rfl RJ9 rfl (fun p e s m args below meth c A R hRm C hr hlk hnm => ?_)
  have hR : R.frames = 0 ∧ R.locals = 0 := by rw [hRm]; exact ⟨rfl, rfl⟩
  refine xr_iload_n C dJ9_min_7cf53_0 0 rfl ?_
  refine xr_iload_n C dJ9_min_7cf53_1 1 rfl ?_
  refine xr_icmp_gt (tgt := 9) C dJ9_min_7cf53_2 (by decide) (fun q1 => ?_) (fun q1 => ?_)
  · replace hm := hm.1 q1
    refine xr_iload_n C dJ9_min_7cf53_9 1 rfl ?_
    exact xr_ireturn C hr hlk hm dJ9_min_7cf53_10
  · replace hm := hm.2 q1
    refine xr_iload_n C dJ9_min_7cf53_5 0 rfl ?_
    refine xr_goto (tgt := 10) C dJ9_min_7cf53_6 (by decide) ?_
    exact xr_ireturn C hr hlk hm dJ9_min_7cf53_10
