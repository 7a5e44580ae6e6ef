/-! the reference takes a message off -/
def shA (k j : Nat) (f : Nat → Int32) (w : Nat) : Nat → Int32 := fun a => if k ≤ a ∧ a < j then f (a + w) else f a
def rmS (s : MS) (k : Nat) (b : Nat → Nat) : MS := (s.1, s.2.1, fun q => if 7 ≤ q ∧ q ≤ 11 then shA k (b q) (s.2.2.1 q) 1 else if q = 12 then shA (64 * k) (b 12) (s.2.2.1 12) 64 else s.2.2.1 q, s.2.2.2)
section REM
variable {s : MS} {k : Nat} {b : Nat → Nat}
theorem shA_step {f : Nat → Int32} {j w : Nat} (hk : k ≤ j) : upd (shA k j f w) j (f (j + w)) = shA k (j + 1) f w := by
  funext a
  by_cases z : a = j
  · subst z
    rw [pk_us]
    unfold shA
    rw [if_pos ⟨hk, by omega⟩]
  · rw [pk_un z]
    unfold shA
    by_cases q : k ≤ a ∧ a < j
    · rw [if_pos q, if_pos ⟨q.1, by omega⟩]
    · rw [if_neg q, if_neg (fun q' => q ⟨q'.1, by omega⟩)]
theorem rmS_up {q j : Nat} (h1 : 7 ≤ q) (h2 : q ≤ 11) (hb : b q = j) (hk : k ≤ j) : mA (rmS s k b) q j (s.2.2.1 q (j + 1)) = rmS s k (va_up b q (j + 1)) := by
  have e : (fun a => va_up (fun q => if 7 ≤ q ∧ q ≤ 11 then shA k (b q) (s.2.2.1 q) 1 else if q = 12 then shA (64 * k) (b 12) (s.2.2.1 12) 64 else s.2.2.1 q) q (upd ((rmS s k b).2.2.1 q) j (s.2.2.1 q (j + 1))) a) = (rmS s k (va_up b q (j + 1))).2.2.1 := by
    funext a
    show _ = if 7 ≤ a ∧ a ≤ 11 then shA k (va_up b q (j + 1) a) (s.2.2.1 a) 1 else if a = 12 then shA (64 * k) (va_up b q (j + 1) 12) (s.2.2.1 12) 64 else s.2.2.1 a
    by_cases z : a = q
    · subst z
      rw [va_up_self, if_pos ⟨h1, h2⟩, va_up_self]
      show upd (if 7 ≤ a ∧ a ≤ 11 then shA k (b a) (s.2.2.1 a) 1 else if a = 12 then shA (64 * k) (b 12) (s.2.2.1 12) 64 else s.2.2.1 a) j _ = _
      rw [if_pos ⟨h1, h2⟩, hb, shA_step hk]
    · rw [va_up_ne _ _ z, va_up_ne _ _ z, va_up_ne _ _ (show 12 ≠ q by omega)]
  exact congrArg (fun z => ((s.1, s.2.1, z, s.2.2.2) : MS)) e
theorem rmS_up12 {a : Nat} (hb : b 12 = a) (hk : 64 * k ≤ a) : mA (rmS s k b) 12 a (s.2.2.1 12 (a + 64)) = rmS s k (va_up b 12 (a + 1)) := by
  have e : (fun q => va_up (fun q => if 7 ≤ q ∧ q ≤ 11 then shA k (b q) (s.2.2.1 q) 1 else if q = 12 then shA (64 * k) (b 12) (s.2.2.1 12) 64 else s.2.2.1 q) 12 (upd ((rmS s k b).2.2.1 12) a (s.2.2.1 12 (a + 64))) q) = (rmS s k (va_up b 12 (a + 1))).2.2.1 := by
    funext q
    show _ = if 7 ≤ q ∧ q ≤ 11 then shA k (va_up b 12 (a + 1) q) (s.2.2.1 q) 1 else if q = 12 then shA (64 * k) (va_up b 12 (a + 1) 12) (s.2.2.1 12) 64 else s.2.2.1 q
    by_cases z : q = 12
    · subst z
      rw [va_up_self, if_neg (by omega), if_pos rfl, va_up_self]
      show upd (if 7 ≤ 12 ∧ 12 ≤ 11 then shA k (b 12) (s.2.2.1 12) 1 else if 12 = 12 then shA (64 * k) (b 12) (s.2.2.1 12) 64 else s.2.2.1 12) a _ = _
      rw [if_neg (by omega), if_pos rfl, hb, shA_step hk]
    · rw [va_up_ne _ _ z]
      by_cases z2 : 7 ≤ q ∧ q ≤ 11
      · rw [if_pos z2, if_pos z2, va_up_ne _ _ z]
      · rw [if_neg z2, if_neg z2, if_neg z, if_neg z]
  exact congrArg (fun z => ((s.1, s.2.1, z, s.2.2.2) : MS)) e
theorem rmS_get {q j : Nat} (h1 : 7 ≤ q) (h2 : q ≤ 11) (hb : b q = j) : (rmS s k b).2.2.1 q (j + 1) = s.2.2.1 q (j + 1) := by
  show (if 7 ≤ q ∧ q ≤ 11 then shA k (b q) (s.2.2.1 q) 1 else _) (j + 1) = _
  rw [if_pos ⟨h1, h2⟩]
  unfold shA
  rw [if_neg (by omega)]
theorem rmS_get12 {a : Nat} (hb : b 12 = a) : (rmS s k b).2.2.1 12 (a + 64) = s.2.2.1 12 (a + 64) := by
  show (if 7 ≤ 12 ∧ 12 ≤ 11 then shA k (b 12) (s.2.2.1 12) 1 else if 12 = 12 then shA (64 * k) (b 12) (s.2.2.1 12) 64 else s.2.2.1 12) (a + 64) = _
  rw [if_neg (by omega), if_pos rfl]
  unfold shA
  rw [if_neg (by omega)]
theorem rm_in {j : Nat} (hk : k ≤ j) (hj : j + 1 < 60) (K : MS → Int32 → Option MS) : ∀ d i m b, 64 - i = d → i ≤ 64 → d < m → b 12 = 64 * j + i → M_remove_L92 m (rmS s k b) (nI j) (nI i) K = K (rmS s k (va_up b 12 (64 * j + 64))) (nI (j + 1)) := by
  intro d
  induction d with
  | zero =>
    intro i m b hd hi hm hb
    obtain ⟨m, rfl⟩ : ∃ m', m = m' + 1 := ⟨m - 1, by omega⟩
    have : i = 64 := by omega
    subst this
    rw [M_remove_L92, if_pos (show (64 : Int32) ≤ nI 64 by decide), nI_1]
    have e : va_up b 12 (64 * j + 64) = b := by
      funext a
      by_cases z : a = 12
      · subst z; rw [va_up_self]; exact hb.symm
      · exact va_up_ne _ _ z
    rw [e]
  | succ d ih =>
    intro i m b hd hi hm hb
    obtain ⟨m, rfl⟩ : ∃ m', m = m' + 1 := ⟨m - 1, by omega⟩
    rw [M_remove_L92, if_neg (show ¬ (64 : Int32) ≤ nI i from nI_ge (b := 64) (by omega) (by omega))]
    have e1 : (64 : Int32) * (nI j + 1) + nI i = nI (64 * j + i + 64) := by
      rw [nI_1, show (64 : Int32) * nI (j + 1) = nI (64 * (j + 1)) from pk_mul 64 _, nI_add]
      congr 1; omega
    have e2 : (64 : Int32) * nI j + nI i = nI (64 * j + i) := by rw [show (64 : Int32) * nI j = nI (64 * j) from pk_mul 64 _, nI_add]
    rw [e1, e2, if_neg (nI_in (by omega) (by omega)), if_neg (nI_in (by omega) (by omega)), nI_clamp (by omega), nI_clamp (by omega), rmS_get12 hb, nI_1]
    show M_remove_L92 m (mA (rmS s k b) 12 (64 * j + i) (s.2.2.1 12 (64 * j + i + 64))) (nI j) (nI (i + 1)) K = _
    rw [rmS_up12 hb (by omega), ih (i + 1) m _ (by omega) (by omega) (by omega) (by rw [va_up_self]; omega), va_up2]
theorem rm_out {M : Nat} (h6 : s.1 6 = nI M) (hM : M < 60) : ∀ d j m b, M - j = d → k ≤ j → j ≤ M → d < m → (∀ q, 7 ≤ q → q ≤ 11 → b q = j) → b 12 = 64 * j → ∃ b', M_remove_L12 m (rmS s k b) (nI j) = some (rmS s k b') ∧ (∀ q, 7 ≤ q → q ≤ 11 → b' q = M) ∧ b' 12 = 64 * M := by
  intro d
  induction d with
  | zero =>
    intro j m b hd hk hj hm h1 h2
    obtain ⟨m, rfl⟩ : ∃ m', m = m' + 1 := ⟨m - 1, by omega⟩
    have : j = M := by omega
    subst this
    refine ⟨b, ?_, h1, h2⟩
    rw [M_remove_L12, if_pos (by show s.1 6 ≤ nI j; rw [h6]; exact Int32.le_refl _)]
  | succ d ih =>
    intro j m b hd hk hj hm h1 h2
    obtain ⟨m, rfl⟩ : ∃ m', m = m' + 1 := ⟨m - 1, by omega⟩
    have b7 := h1 7 (by omega) (by omega)
    have b8 := h1 8 (by omega) (by omega)
    have b9 := h1 9 (by omega) (by omega)
    have b10 := h1 10 (by omega) (by omega)
    have b11 := h1 11 (by omega) (by omega)
    rw [M_remove_L12, if_neg (by show ¬ s.1 6 ≤ nI j; rw [h6]; exact nI_ge (by omega) (by omega))]
    have cj : (nI j).toNatClampNeg = j := nI_clamp (by omega)
    have ij : (nI j < 0 ∨ 60 ≤ j) = False := ixF (by omega) (by omega)
    have cj1 : (nI (j + 1)).toNatClampNeg = j + 1 := nI_clamp (by omega)
    have ij1 : (nI (j + 1) < 0 ∨ 60 ≤ j + 1) = False := ixF (by omega) (by omega)
    dsimp only [lt1]
    simp only [nI_1, cj, ij, cj1, ij1, if_false]
    rw [rmS_get (q := 7) (by omega) (by omega) b7, rmS_up (q := 7) (by omega) (by omega) b7 hk]
    rw [rmS_get (q := 8) (b := va_up b 7 (j + 1)) (j := j) (by omega) (by omega) (by rw [va_up_ne _ _ (by omega)]; exact b8), rmS_up (q := 8) (b := va_up b 7 (j + 1)) (j := j) (by omega) (by omega) (by rw [va_up_ne _ _ (by omega)]; exact b8) hk]
    rw [rmS_get (q := 9) (b := va_up (va_up b 7 (j + 1)) 8 (j + 1)) (j := j) (by omega) (by omega) (by rw [va_up_ne _ _ (by omega), va_up_ne _ _ (by omega)]; exact b9), rmS_up (q := 9) (b := va_up (va_up b 7 (j + 1)) 8 (j + 1)) (j := j) (by omega) (by omega) (by rw [va_up_ne _ _ (by omega), va_up_ne _ _ (by omega)]; exact b9) hk]
    rw [rmS_get (q := 10) (b := va_up (va_up (va_up b 7 (j + 1)) 8 (j + 1)) 9 (j + 1)) (j := j) (by omega) (by omega) (by rw [va_up_ne _ _ (by omega), va_up_ne _ _ (by omega), va_up_ne _ _ (by omega)]; exact b10), rmS_up (q := 10) (b := va_up (va_up (va_up b 7 (j + 1)) 8 (j + 1)) 9 (j + 1)) (j := j) (by omega) (by omega) (by rw [va_up_ne _ _ (by omega), va_up_ne _ _ (by omega), va_up_ne _ _ (by omega)]; exact b10) hk]
    rw [rmS_get (q := 11) (b := va_up (va_up (va_up (va_up b 7 (j + 1)) 8 (j + 1)) 9 (j + 1)) 10 (j + 1)) (j := j) (by omega) (by omega) (by rw [va_up_ne _ _ (by omega), va_up_ne _ _ (by omega), va_up_ne _ _ (by omega), va_up_ne _ _ (by omega)]; exact b11), rmS_up (q := 11) (b := va_up (va_up (va_up (va_up b 7 (j + 1)) 8 (j + 1)) 9 (j + 1)) 10 (j + 1)) (j := j) (by omega) (by omega) (by rw [va_up_ne _ _ (by omega), va_up_ne _ _ (by omega), va_up_ne _ _ (by omega), va_up_ne _ _ (by omega)]; exact b11) hk]
    have := rm_in (s := s) (k := k) (j := j) hk (by omega) (fun sk xv2k => M_remove_L12 m sk xv2k) 64 0 mfu (va_up (va_up (va_up (va_up (va_up b 7 (j + 1)) 8 (j + 1)) 9 (j + 1)) 10 (j + 1)) 11 (j + 1)) (by omega) (by omega) (by unfold mfu; omega) (by rw [va_up_ne _ _ (by omega), va_up_ne _ _ (by omega), va_up_ne _ _ (by omega), va_up_ne _ _ (by omega), va_up_ne _ _ (by omega)]; exact h2)
    rw [show (0 : Int32) = nI 0 from nI_0.symm, this]
    refine ih (j + 1) m _ (by omega) (by omega) (by omega) (by omega) (fun q q1 q2 => ?_) (by rw [va_up_self]; omega)
    rw [va_up_ne _ _ (by omega)]
    by_cases z : q = 11
    · subst z; exact va_up_self _ _ _
    rw [va_up_ne _ _ z]
    by_cases z : q = 10
    · subst z; exact va_up_self _ _ _
    rw [va_up_ne _ _ z]
    by_cases z : q = 9
    · subst z; exact va_up_self _ _ _
    rw [va_up_ne _ _ z]
    by_cases z : q = 8
    · subst z; exact va_up_self _ _ _
    rw [va_up_ne _ _ z]
    by_cases z : q = 7
    · subst z; exact va_up_self _ _ _
    omega
/-- the state without message k, m being left -/
def remS (s : MS) (k m : Nat) : MS := rmS (mI s 6 (nI m)) k (fun q => if q = 12 then 64 * m else m)
theorem M_remove_eq {n2 : Nat} (h6 : s.1 6 = nI n2) (h60 : n2 ≤ 60) (hk : k < n2) : M_remove s (nI k) = some (remS s k (n2 - 1)) := by
  obtain ⟨M, rfl⟩ : ∃ M, n2 = M + 1 := ⟨n2 - 1, by omega⟩
  unfold M_remove
  rw [h6, nI_pred]
  show M_remove_L12 mfu (mI s 6 (nI M)) (nI k) = _
  have e0 : rmS (mI s 6 (nI M)) k (fun q => if q = 12 then 64 * k else k) = mI s 6 (nI M) := by
    have e : (rmS (mI s 6 (nI M)) k (fun q => if q = 12 then 64 * k else k)).2.2.1 = s.2.2.1 := by
      funext q
      show (if 7 ≤ q ∧ q ≤ 11 then shA k (if q = 12 then 64 * k else k) (s.2.2.1 q) 1 else if q = 12 then shA (64 * k) (if (12 : Nat) = 12 then 64 * k else k) (s.2.2.1 12) 64 else s.2.2.1 q) = _
      by_cases z : 7 ≤ q ∧ q ≤ 11
      · rw [if_pos z, if_neg (by omega)]
        funext a
        unfold shA
        rw [if_neg (by omega)]
      · rw [if_neg z]
        by_cases z2 : q = 12
        · subst z2
          rw [if_pos rfl, if_pos rfl]
          funext a
          unfold shA
          rw [if_neg (by omega)]
        · rw [if_neg z2]
    show ((mI s 6 (nI M)).1, s.2.1, (rmS (mI s 6 (nI M)) k (fun q => if q = 12 then 64 * k else k)).2.2.1, s.2.2.2) = _
    rw [e]
    rfl
  obtain ⟨b', h1, h2, h3⟩ := rm_out (s := mI s 6 (nI M)) (k := k) (M := M) (by show va_up s.1 6 (nI M) 6 = _; exact va_up_self _ _ _) (by omega) (M - k) k mfu (fun q => if q = 12 then 64 * k else k) (by omega) (Nat.le_refl _) (by omega) (by unfold mfu; omega) (fun q q1 q2 => by show (if q = 12 then 64 * k else k) = k; rw [if_neg (by omega)]) (by show (if (12 : Nat) = 12 then 64 * k else k) = 64 * k; rw [if_pos rfl])
  rw [e0] at h1
  rw [h1]
  have e : (rmS (mI s 6 (nI M)) k b').2.2.1 = (remS s k (M + 1 - 1)).2.2.1 := by
    funext q
    show (if 7 ≤ q ∧ q ≤ 11 then shA k (b' q) (s.2.2.1 q) 1 else if q = 12 then shA (64 * k) (b' 12) (s.2.2.1 12) 64 else s.2.2.1 q) = (if 7 ≤ q ∧ q ≤ 11 then shA k (if q = 12 then 64 * M else M) (s.2.2.1 q) 1 else if q = 12 then shA (64 * k) (if (12 : Nat) = 12 then 64 * M else M) (s.2.2.1 12) 64 else s.2.2.1 q)
    by_cases z : 7 ≤ q ∧ q ≤ 11
    · rw [if_pos z, if_pos z, h2 q z.1 z.2, if_neg (by omega)]
    · rw [if_neg z, if_neg z]
      by_cases z2 : q = 12
      · rw [if_pos z2, if_pos z2, h3, if_pos rfl]
      · rw [if_neg z2, if_neg z2]
  show some ((mI s 6 (nI M)).1, s.2.1, (rmS (mI s 6 (nI M)) k b').2.2.1, s.2.2.2) = _
  rw [e]
  rfl
end REM
