/-! a message is written: the reference and the class write the same bytes -/
def hasK (k t : Nat) : Bool := decide ((((xs_F.getD k 0) >>> (nI t &&& 31)) &&& 1) = 1)
def lenT (t : Nat) : Nat := [0, 1, 2, 5, 4, 1, 1, 1, 4, 2, 1, 4].getD t 0
def szK (k : Nat) : Nat → Nat
  | 0 => 1
  | t + 1 => szK k t + if hasK k (t + 1) then 2 + lenT (t + 1) else 0
def bv (v : Int64) (len i : Nat) : Int32 := ((v >>> ((8 * ((nI len - 1) - nI i)).toInt64 &&& 63)).toInt32) &&& 255
def wvT (k : Nat) (v : Nat → Int64) : Nat → Nat → Int32
  | 0, _ => nI k
  | t + 1, i => if hasK k (t + 1) = true ∧ szK k t ≤ i then (if i = szK k t then nI (t + 1) else if i = szK k t + 1 then nI (lenT (t + 1)) else bv (v (t + 1)) (lenT (t + 1)) (i - szK k t - 2)) else wvT k v t i
theorem szK_le : ∀ k, k < 12 → ∀ t, t < 12 → szK k t ≤ 39 := by decide +kernel
theorem szK_11 : ∀ k, k < 12 → ∀ t, t < 12 → szK k t ≤ szK k 11 := by decide +kernel
theorem lenT_le : ∀ t, t < 12 → lenT t ≤ 5 ∧ xs_L.getD t 0 = nI (lenT t) := by decide +kernel
theorem szK_mono {k t : Nat} : szK k t ≤ szK k (t + 1) := by show szK k t ≤ szK k t + _; omega
def ms0 : MS := (fun _ => 0, 0, fun _ _ => 0, fun _ _ => 0)
theorem M_has_s (s : MS) (a b : Int32) : M_has s a b = (M_has ms0 a b).map (fun p => (p.1, s)) := by
  unfold M_has M_has_L87 M_has_L138 M_has_L167 M_has_L191 M_has_L225 M_has_L243 M_has_L261
  simp only [apply_ite (Option.map _), Option.map_some]
theorem hasK_ok : ∀ k, k < 12 → 1 ≤ k → ∀ t, t < 12 → 1 ≤ t → (M_has ms0 (nI k) (nI t)).map (fun p => p.1) = some (if hasK k t then 1 else 0) := by decide +kernel
theorem M_has_eq (s : MS) {k t : Nat} (hk : 1 ≤ k ∧ k < 12) (ht : 1 ≤ t ∧ t < 12) : M_has s (nI k) (nI t) = some (if hasK k t then 1 else 0, s) := by
  have h1 := hasK_ok k hk.2 hk.1 t ht.2 ht.1
  rw [M_has_s]
  obtain ⟨p, h2, h3⟩ := Option.map_eq_some_iff.mp h1
  rw [h2, ← h3]
  rfl
theorem M_len_s (s : MS) (a : Int32) : M_lengthOf s a = (M_lengthOf ms0 a).map (fun p => (p.1, s)) := by
  unfold M_lengthOf
  simp only [apply_ite (Option.map _), Option.map_some]
theorem lenT_ok : ∀ t, t < 12 → 1 ≤ t → (M_lengthOf ms0 (nI t)).map (fun p => p.1) = some (nI (lenT t)) := by decide +kernel
theorem M_len_eq (s : MS) {t : Nat} (ht : 1 ≤ t ∧ t < 12) : M_lengthOf s (nI t) = some (nI (lenT t), s) := by
  have h1 := lenT_ok t ht.2 ht.1
  rw [M_len_s]
  obtain ⟨p, h2, h3⟩ := Option.map_eq_some_iff.mp h1
  rw [h2, ← h3]
  rfl
/-- the state with other bytes -/
def sB (s : MS) (B : Nat → Int32) : MS := (s.1, s.2.1, va_up s.2.2.1 12 B, s.2.2.2)
theorem va_up2 {α : Type} {f : Nat → α} {k : Nat} {a b : α} : va_up (va_up f k a) k b = va_up f k b := by
  funext j
  by_cases e : j = k
  · subst e; rw [va_up_self, va_up_self]
  · rw [va_up_ne _ _ e, va_up_ne _ _ e, va_up_ne _ _ e]
theorem sB_A (s : MS) (B : Nat → Int32) (i : Nat) (v : Int32) : mA (sB s B) 12 i v = sB s (upd B i v) := by
  show (s.1, s.2.1, va_up (va_up s.2.2.1 12 B) 12 (upd (va_up s.2.2.1 12 B 12) i v), s.2.2.2) = _
  rw [va_up2, va_up_self]
  rfl
/-- a message behind the others, the bytes being B -/
def lieA (s : MS) (so nu oso onu sz : Int32) (B : Nat → Int32) : MS :=
  mI (mA (mA (mA (mA (mA (sB s B) 7 (s.1 6).toNatClampNeg so) 8 (s.1 6).toNatClampNeg nu) 9 (s.1 6).toNatClampNeg oso) 10 (s.1 6).toNatClampNeg onu) 11 (s.1 6).toNatClampNeg sz) 6 (s.1 6 + 1)
theorem M_lie_eq {s : MS} {n2 : Nat} (h6 : s.1 6 = nI n2) (hn : n2 < 60) (B : Nat → Int32) (so nu oso onu sz : Int32) : M_lie (sB s B) so nu oso onu sz = some (lieA s so nu oso onu sz B) := by
  have hb : ¬ (s.1 6 < 0 ∨ 60 ≤ (s.1 6).toNatClampNeg) := by rw [h6]; exact nI_in (by omega) (by omega)
  exact (if_neg hb).trans ((if_neg hb).trans ((if_neg hb).trans ((if_neg hb).trans ((if_neg hb).trans rfl))))
theorem M_send_in {s : MS} {k base p t len : Nat} {so nu oso onu : Int32} (hp : base + p + 2 + len ≤ 3840) (ht : t < 12) (K : MS → Int32 → Int32 → Int32 → Int32 → Int32 → Int32 → Int32 → Int32 → Option (Int32 × MS)) :
    ∀ (d i m : Nat) (B : Nat → Int32), len - i = d → i ≤ len → d < m → ∃ B', M_send_L86 m (sB s B) (nI k) so nu oso onu (nI base) (nI p) (nI t) (nI len) (nI i) K = K (sB s B') (nI k) so nu oso onu (nI base) (nI (p + (2 + len))) (nI (t + 1)) ∧ (∀ j, i ≤ j → j < len → B' (base + p + 2 + j) = bv (s.2.2.2 18 t) len j) ∧ ∀ a, (a < base + p + 2 + i ∨ base + p + 2 + len ≤ a) → B' a = B a := by
  intro d
  induction d with
  | zero =>
    intro i m B hd hi hm
    obtain ⟨m, rfl⟩ : ∃ q, m = q + 1 := ⟨m - 1, by omega⟩
    refine ⟨B, ?_, fun j h1 h2 => by omega, fun _ _ => rfl⟩
    unfold M_send_L86 M_send_L146
    rw [if_pos (nI_le (by omega) (by omega)), show (2 : Int32) + nI len = nI (2 + len) from nI_add 2 len, nI_add, nI_1]
  | succ d ih =>
    intro i m B hd hi hm
    obtain ⟨m, rfl⟩ : ∃ q, m = q + 1 := ⟨m - 1, by omega⟩
    obtain ⟨B', h1, h2, h3⟩ := ih (i + 1) m (upd B (base + p + 2 + i) (bv (s.2.2.2 18 t) len i)) (by omega) (by omega) (by omega)
    refine ⟨B', ?_, fun j q1 q2 => ?_, fun a q => ?_⟩
    · rw [← h1]
      conv => lhs; unfold M_send_L86
      have ea : nI base + nI p + 2 + nI i = nI (base + p + 2 + i) := by rw [nI_add, show nI (base + p) + 2 = nI (base + p + 2) from nI_add _ 2, nI_add]
      rw [if_neg (nI_ge (by omega) (by omega)), if_neg (nI_in ht (by omega))]
      dsimp only [lt1]
      rw [ea, if_neg (nI_in (by omega) (by omega)), nI_clamp (show base + p + 2 + i < 2 ^ 31 by omega), nI_clamp (show t < 2 ^ 31 by omega), sB_A, nI_1]
      rfl
    · by_cases e : j = i
      · subst e
        rw [h3 _ (by omega), pk_us]
      · exact h2 j (by omega) q2
    · rw [h3 a (by omega), pk_un (by omega)]
theorem wvT_low {k : Nat} {v : Nat → Int64} {t i : Nat} (hi : i < szK k t) : wvT k v (t + 1) i = wvT k v t i := by
  show (if _ then _ else _) = _
  rw [if_neg (fun q => by omega)]
theorem wvT_no {k : Nat} {v : Nat → Int64} {t i : Nat} (hh : hasK k (t + 1) = false) : wvT k v (t + 1) i = wvT k v t i := by
  show (if _ then _ else _) = _
  rw [if_neg (fun q => by rw [hh] at q; exact absurd q.1 (by decide))]
theorem wvT_f {k : Nat} {v : Nat → Int64} {t i : Nat} (hh : hasK k (t + 1) = true) (hi : szK k t ≤ i) : wvT k v (t + 1) i = if i = szK k t then nI (t + 1) else if i = szK k t + 1 then nI (lenT (t + 1)) else bv (v (t + 1)) (lenT (t + 1)) (i - szK k t - 2) := by
  show (if _ then _ else _) = _
  rw [if_pos ⟨hh, hi⟩]
theorem szK_no {k t : Nat} (hh : hasK k (t + 1) = false) : szK k (t + 1) = szK k t := by show szK k t + _ = _; rw [hh]; simp
theorem szK_yes {k t : Nat} (hh : hasK k (t + 1) = true) : szK k (t + 1) = szK k t + (2 + lenT (t + 1)) := by show szK k t + _ = _; rw [hh]; simp
theorem M_send_out {s : MS} {k n2 : Nat} {so nu oso onu : Int32} (hk : 1 ≤ k ∧ k < 12) (h6 : s.1 6 = nI n2) (hn : n2 < 60) :
    ∀ (d t m : Nat) (B : Nat → Int32), 11 - t = d → t ≤ 11 → d < m → (∀ i, i < szK k t → B (64 * n2 + i) = wvT k (s.2.2.2 18) t i) → ∃ B', M_send_L34 m (sB s B) (nI k) so nu oso onu (nI (64 * n2)) (nI (szK k t)) (nI (t + 1)) = some (1, lieA s so nu oso onu (nI (szK k 11)) B') ∧ (∀ i, i < szK k 11 → B' (64 * n2 + i) = wvT k (s.2.2.2 18) 11 i) ∧ ∀ a, (a < 64 * n2 ∨ 64 * n2 + szK k 11 ≤ a) → B' a = B a := by
  intro d
  induction d with
  | zero =>
    intro t m B hd ht hm hB
    obtain ⟨m, rfl⟩ : ∃ q, m = q + 1 := ⟨m - 1, by omega⟩
    have : t = 11 := by omega
    subst this
    refine ⟨B, ?_, hB, fun _ _ => rfl⟩
    unfold M_send_L34
    rw [if_pos (by decide), M_lie_eq h6 hn]
    rfl
  | succ d ih =>
    intro t m B hd ht hm hB
    obtain ⟨m, rfl⟩ : ∃ q, m = q + 1 := ⟨m - 1, by omega⟩
    have hsz := szK_le k hk.2 t (by omega)
    have hsz1 := szK_le k hk.2 (t + 1) (by omega)
    have hsz2 := szK_11 k hk.2 (t + 1) (by omega)
    unfold M_send_L34
    rw [if_neg (show ¬ (11 : Int32) < nI (t + 1) from nI_nlt (a := 11) (by omega) (by omega)), M_has_eq _ hk (by omega)]
    dsimp only [Option.bind_some, lt1]
    cases hh : hasK k (t + 1) with
    | false =>
      obtain ⟨B', h1, h2, h3⟩ := ih (t + 1) m B (by omega) (by omega) (by omega) (fun i hi => by rw [szK_no hh] at hi; rw [wvT_no hh]; exact hB i hi)
      refine ⟨B', ?_, h2, h3⟩
      rw [if_pos (by simp), ← h1, szK_no hh]
      unfold M_send_L146
      rw [nI_1]
    | true =>
      rw [if_neg (by simp), M_len_eq _ (by omega)]
      dsimp only [Option.bind_some, lt1]
      have hl := (lenT_le (t + 1) (by omega)).1
      have hsy := szK_yes hh
      have e1 : nI (64 * n2) + nI (szK k t) = nI (64 * n2 + szK k t) := nI_add _ _
      rw [e1, if_neg (nI_in (by omega) (by omega)), nI_clamp (by omega), sB_A, show nI (64 * n2 + szK k t) + 1 = nI (64 * n2 + szK k t + 1) from nI_1 _, if_neg (nI_in (by omega) (by omega)), nI_clamp (by omega), sB_A]
      obtain ⟨B1, g1, g2, g3⟩ := M_send_in (s := s) (k := k) (base := 64 * n2) (p := szK k t) (t := t + 1) (len := lenT (t + 1)) (so := so) (nu := nu) (oso := oso) (onu := onu) (by omega) (by omega) (fun sk xv1k xv2k xv3k xv4k xv5k xv6k xv7k xv8k => M_send_L34 m sk xv1k xv2k xv3k xv4k xv5k xv6k xv7k xv8k) (lenT (t + 1)) 0 mfu (upd (upd B (64 * n2 + szK k t) (nI (t + 1))) (64 * n2 + szK k t + 1) (nI (lenT (t + 1)))) (by omega) (by omega) (by unfold mfu; omega)
      obtain ⟨B', h1, h2, h3⟩ := ih (t + 1) m B1 (by omega) (by omega) (by omega) (fun i hi => by
        by_cases z : i < szK k t
        · rw [wvT_low z, g3 _ (by omega), pk_un (by omega), pk_un (by omega)]; exact hB i z
        · rw [wvT_f hh (by omega)]
          by_cases z1 : i = szK k t
          · subst z1; rw [if_pos rfl, g3 _ (by omega), pk_un (by omega), pk_us]
          · rw [if_neg z1]
            by_cases z2 : i = szK k t + 1
            · subst z2; rw [if_pos rfl, g3 _ (by omega), show 64 * n2 + (szK k t + 1) = 64 * n2 + szK k t + 1 by omega, pk_us]
            · rw [if_neg z2, ← g2 (i - szK k t - 2) (by omega) (by omega)]
              congr 1; omega)
      refine ⟨B', ?_, h2, fun a ha => ?_⟩
      · rw [show (0 : Int32) = nI 0 from rfl, g1, ← h1, hsy]
      · rw [h3 a ha, g3 a (by omega), pk_un (by omega), pk_un (by omega)]
theorem M_send_full {s : MS} {k so nu oso onu : Int32} (h6 : s.1 6 = nI 60) : M_send s k so nu oso onu = some (0, s) := by
  unfold M_send
  rw [h6, if_pos (show nI 60 = 60 from rfl)]
theorem M_send_eq {s : MS} {k n2 : Nat} {so nu oso onu : Int32} (hk : 1 ≤ k ∧ k < 12) (h6 : s.1 6 = nI n2) (hn : n2 < 60) :
    ∃ B', M_send s (nI k) so nu oso onu = some (1, lieA s so nu oso onu (nI (szK k 11)) B') ∧ (∀ i, i < szK k 11 → B' (64 * n2 + i) = wvT k (s.2.2.2 18) 11 i) ∧ ∀ a, (a < 64 * n2 ∨ 64 * n2 + szK k 11 ≤ a) → B' a = s.2.2.1 12 a := by
  obtain ⟨B', h1, h2, h3⟩ := M_send_out (s := s) (so := so) (nu := nu) (oso := oso) (onu := onu) hk h6 hn 11 0 mfu (upd (s.2.2.1 12) (64 * n2) (nI k)) (by omega) (by omega) (by unfold mfu; omega) (fun i hi => by
    have : i = 0 := by have : szK k 0 = 1 := rfl; omega
    subst this
    rw [show 64 * n2 + 0 = 64 * n2 from rfl, pk_us]; rfl)
  have hs1 := szK_11 k hk.2 0 (by omega)
  have hs0 : szK k 0 = 1 := rfl
  refine ⟨B', ?_, h2, fun a ha => by rw [h3 a ha, pk_un (by omega)]⟩
  rw [← h1]
  unfold M_send
  have e : (64 : Int32) * nI n2 = nI (64 * n2) := pk_mul 64 n2
  rw [h6, if_neg (fun q => by have := (nI_eq (a := n2) (b := 60) (by omega) (by omega)).mp q; omega), e, if_neg (nI_in (by omega) (by omega)), nI_clamp (by omega)]
  rfl
