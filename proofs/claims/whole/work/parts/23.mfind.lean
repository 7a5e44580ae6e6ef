/-! the reference's search for a seal -/
theorem lg_eq {a b : Int64} : lg_cmp a b = 0 ↔ a = b := lg_cmp_eq a b
theorem nI_in2 {c N : Nat} (h : c < N) (hN : N < 2 ^ 31) : ¬ (nI c < 0 ∨ N ≤ c) := by
  intro q
  rcases q with q | q
  · exact nI_pos (by omega) q
  · omega
/-- seal j is that of the key and of the row of rs numbers -/
def mt (s : MS) (key : Int32) (rs j : Nat) : Prop := s.2.2.1 1 j = key ∧ s.2.2.1 2 j = nI rs ∧ ∀ i, i < rs → s.2.2.2 3 (12 * j + i) = s.2.2.2 4 i
theorem M_find_in {s : MS} {rs j : Nat} {key : Int32} (h5 : s.1 5 = nI rs) (hrs : rs ≤ 12) (hj : j < 4096) (K : MS → Int32 → Int32 → Option (Int32 × MS)) : ∀ (d i n : Nat) (f : Int32), rs - i = d → i ≤ rs → d < n →
    ((f = 0 → M_find_L58 n s key (nI j) f (nI i) K = K s key (nI (j + 1))) ∧
     (f = 1 → (∀ i', i ≤ i' → i' < rs → s.2.2.2 3 (12 * j + i') = s.2.2.2 4 i') → M_find_L58 n s key (nI j) f (nI i) K = some (nI (j + 1), s)) ∧
     (f = 1 → (¬ ∀ i', i ≤ i' → i' < rs → s.2.2.2 3 (12 * j + i') = s.2.2.2 4 i') → M_find_L58 n s key (nI j) f (nI i) K = K s key (nI (j + 1)))) := by
  intro d
  induction d with
  | zero =>
    intro i n f hd hi hn
    obtain ⟨n, rfl⟩ : ∃ m, n = m + 1 := ⟨n - 1, by omega⟩
    have e : i = rs := by omega
    subst e
    refine ⟨fun hf => ?_, fun hf _ => ?_, fun hf h => absurd (fun i' h1 h2 => by omega) h⟩
    · subst hf
      unfold M_find_L58
      rw [h5, if_pos (nI_le (Nat.le_refl _) (by omega))]
      unfold M_find_L109
      rw [if_pos rfl, nI_1]
    · subst hf
      unfold M_find_L58
      rw [h5, if_pos (nI_le (Nat.le_refl _) (by omega))]
      unfold M_find_L109
      rw [if_neg (by decide), nI_1]
  | succ d ih =>
    intro i n f hd hi hn
    obtain ⟨n, rfl⟩ : ∃ m, n = m + 1 := ⟨n - 1, by omega⟩
    have hlt : i < rs := by omega
    have ea : (12 : Int32) * nI j + nI i = nI (12 * j + i) := by rw [show (12 : Int32) = nI 12 from rfl, pk_mul, nI_add]
    have step : f ≠ 0 → M_find_L58 (n + 1) s key (nI j) f (nI i) K = if lg_cmp (s.2.2.2 3 (12 * j + i)) (s.2.2.2 4 i) = 0 then M_find_L58 n s key (nI j) 1 (nI (i + 1)) K else M_find_L58 n s key (nI j) 0 (nI (i + 1)) K := by
      intro hf
      conv => lhs; unfold M_find_L58
      rw [h5, if_neg (nI_ge hlt (by omega)), if_neg hf, ea, if_neg (nI_in (by omega) (by omega)), if_neg (nI_in (by omega) (by omega)), nI_clamp (by omega), nI_clamp (by omega)]
      unfold M_find_L101
      rw [nI_1]
    refine ⟨fun hf => ?_, fun hf h => ?_, fun hf h => ?_⟩
    · subst hf
      unfold M_find_L58
      rw [h5, if_neg (nI_ge hlt (by omega)), if_pos rfl]
      unfold M_find_L109
      rw [if_pos rfl, nI_1]
    · rw [step (by rw [hf]; decide), if_pos (lg_eq.mpr (h i (Nat.le_refl _) hlt))]
      exact (ih (i + 1) n 1 (by omega) (by omega) (by omega)).2.1 rfl (fun i' h1 h2 => h i' (by omega) h2)
    · rw [step (by rw [hf]; decide)]
      by_cases e : s.2.2.2 3 (12 * j + i) = s.2.2.2 4 i
      · rw [if_pos (lg_eq.mpr e)]
        refine (ih (i + 1) n 1 (by omega) (by omega) (by omega)).2.2 rfl (fun z => h (fun i' h1 h2 => ?_))
        by_cases q : i' = i
        · subst q; exact e
        · exact z i' (by omega) h2
      · rw [if_neg (fun z => e (lg_eq.mp z))]
        exact (ih (i + 1) n 0 (by omega) (by omega) (by omega)).1 rfl
theorem M_find_out {s : MS} {rs n4 : Nat} {key : Int32} (h5 : s.1 5 = nI rs) (hrs : rs ≤ 12) (h0 : s.1 0 = nI n4) (hn4 : n4 ≤ 4096) : ∀ (d j n : Nat), n4 - j = d → j ≤ n4 → d < n → (∀ j', j' < j → ¬ mt s key rs j') →
    ∃ r, M_find_L13 n s key (nI j) = some (r, s) ∧ ((r = 0 ∧ ∀ j', j' < n4 → ¬ mt s key rs j') ∨ ∃ j', j' < n4 ∧ r = nI (j' + 1) ∧ mt s key rs j' ∧ ∀ k, k < j' → ¬ mt s key rs k) := by
  intro d
  induction d with
  | zero =>
    intro j n hd hj hn hno
    obtain ⟨n, rfl⟩ : ∃ m, n = m + 1 := ⟨n - 1, by omega⟩
    refine ⟨0, ?_, Or.inl ⟨rfl, fun j' h => hno j' (by omega)⟩⟩
    unfold M_find_L13
    rw [h0, if_pos (nI_le (by omega) (by omega))]
  | succ d ih =>
    intro j n hd hj hn hno
    obtain ⟨n, rfl⟩ : ∃ m, n = m + 1 := ⟨n - 1, by omega⟩
    have hlt : j < n4 := by omega
    have no : ¬ mt s key rs j → ∃ r, M_find_L13 n s key (nI (j + 1)) = some (r, s) ∧ ((r = 0 ∧ ∀ j', j' < n4 → ¬ mt s key rs j') ∨ ∃ j', j' < n4 ∧ r = nI (j' + 1) ∧ mt s key rs j' ∧ ∀ k, k < j' → ¬ mt s key rs k) := by
      intro hm
      refine ih (j + 1) n (by omega) (by omega) (by omega) (fun j' h => ?_)
      by_cases q : j' = j
      · subst q; exact hm
      · exact hno j' (by omega)
    have I := fun f => M_find_in (key := key) h5 hrs (show j < 4096 by omega) (fun sk xv4k xv5k => M_find_L13 n sk xv4k xv5k) rs 0 mfu f (by omega) (by omega) (by unfold mfu; omega)
    unfold M_find_L13
    rw [h0, if_neg (nI_ge hlt (by omega)), if_neg (nI_in (by omega) (by omega)), nI_clamp (by omega)]
    by_cases k1 : s.2.2.1 1 j = key
    · rw [if_pos k1, h5]
      by_cases k2 : s.2.2.1 2 j = nI rs
      · rw [if_neg (nI_in2 (by omega) (by omega)), if_pos k2]
        unfold M_find_L53
        by_cases k3 : ∀ i', 0 ≤ i' → i' < rs → s.2.2.2 3 (12 * j + i') = s.2.2.2 4 i'
        · have := (I 1).2.1 rfl k3
          rw [show nI 0 = (0 : Int32) from rfl] at this
          rw [this]
          exact ⟨_, rfl, Or.inr ⟨j, hlt, rfl, ⟨k1, k2, fun i hi => k3 i (Nat.zero_le _) hi⟩, hno⟩⟩
        · have := (I 1).2.2 rfl k3
          rw [show nI 0 = (0 : Int32) from rfl] at this
          rw [this]
          exact no (fun z => k3 (fun i _ hi => z.2.2 i hi))
      · rw [if_neg (nI_in2 (by omega) (by omega)), if_neg k2]
        unfold M_find_L52 M_find_L53
        have := (I 0).1 rfl
        rw [show nI 0 = (0 : Int32) from rfl] at this
        rw [this]
        exact no (fun z => k2 z.2.1)
    · rw [if_neg k1]
      unfold M_find_L52 M_find_L53
      have := (I 0).1 rfl
      rw [show nI 0 = (0 : Int32) from rfl] at this
      rw [this]
      exact no (fun z => k1 z.1)
theorem M_find_spec {s : MS} {rs n4 : Nat} (h5 : s.1 5 = nI rs) (hrs : rs ≤ 12) (h0 : s.1 0 = nI n4) (hn4 : n4 ≤ 4096) (sort : Int32) (num : Int64) :
    ∃ r, M_find s sort num = some (r, s) ∧ ((r = 0 ∧ ∀ j, j < n4 → ¬ mt s (256 * sort + num.toInt32) rs j) ∨ ∃ j, j < n4 ∧ r = nI (j + 1) ∧ mt s (256 * sort + num.toInt32) rs j ∧ ∀ k, k < j → ¬ mt s (256 * sort + num.toInt32) rs k) := by
  unfold M_find
  exact M_find_out h5 hrs h0 hn4 n4 0 mfu (by omega) (by omega) (by unfold mfu; omega) (fun j h => by omega)
