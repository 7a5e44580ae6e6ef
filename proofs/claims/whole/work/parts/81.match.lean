/-! matched: the reference -/
abbrev pmt (s : MS) (i j : Nat) : Prop := s.2.2.2 58 (3 * j) = s.2.2.2 62 (7 * i + 4) ∧ s.2.2.2 58 (3 * j + 1) = s.2.2.2 62 (7 * i + 2) ∧ s.2.2.2 58 (3 * j + 2) = s.2.2.2 62 (7 * i + 3)
def pcN (s : MS) (i : Nat) : Nat → Nat
  | 0 => 0
  | m + 1 => pcN s i m + if pmt s i m then 1 else 0
def amt (s : MS) (i j : Nat) : Prop := ∀ q, q < 7 → s.2.2.2 60 (7 * j + q) = s.2.2.2 62 (7 * i + q)
def dmt (s : MS) (i k : Nat) : Prop := s.2.2.2 62 (7 * k) = s.2.2.2 62 (7 * i) ∧ s.2.2.2 62 (7 * k + 1) = s.2.2.2 62 (7 * i + 1)
section MATCH
variable {E : Ev} {A S : Nat → Prop} {h h' : Hp} {y y' : Nat → Nat → Nat} {s s' : MS} {n cp n' cp' : Nat → Nat} {i u k m kc ks t : Nat} {r : Int32}
theorem pcN_le (s : MS) (i m : Nat) : pcN s i m ≤ m := by
  induction m with
  | zero => exact Nat.le_refl _
  | succ m ih =>
    unfold pcN
    by_cases z : pmt s i m
    · rw [if_pos z]; omega
    · rw [if_neg z]; omega
theorem L140_s (m : Nat) (s : MS) {i j q : Nat} (x4 x5 x7 : Int32) (hq : q < 7) (hi : i < 512) (hj : j < 512) (K4 : MS → Int32 → Int32 → Option (Int32 × MS)) (K125 : MS → Int32 → Int32 → Int32 → Int32 → Int32 → Option (Int32 × MS)) : M_matched_L140 (m + 1) s (nI i) (nI (7 * i)) x4 x5 (nI j) x7 (nI q) K4 K125 = M_matched_L140 m s (nI i) (nI (7 * i)) x4 x5 (nI j) (if x7 = 0 then 0 else if s.2.2.2 60 (7 * j + q) = s.2.2.2 62 (7 * i + q) then 1 else 0) (nI (q + 1)) K4 K125 := by
  rw [M_matched_L140]
  rw [if_neg (show ¬ (7 : Int32) ≤ nI q from nI_ge (a := q) (b := 7) (by omega) (by omega))]
  unfold M_matched_L182 M_matched_L183
  dsimp only
  rw [show (7 : Int32) * nI j = nI (7 * j) from pk_mul 7 _, nI_add, nI_add, nI_1, nI_clamp (by omega), nI_clamp (by omega), if_neg (nI_in2 (by omega) (by omega)), if_neg (nI_in2 (by omega) (by omega))]
  by_cases z : x7 = 0
  · rw [if_pos z, if_pos z]
  · rw [if_neg z, if_neg z]
    by_cases w : s.2.2.2 60 (7 * j + q) = s.2.2.2 62 (7 * i + q)
    · rw [if_pos (lg_eq.mpr w), if_pos w]
    · rw [if_neg (fun v => w (lg_eq.mp v)), if_neg w]
theorem L140_e (m : Nat) (s : MS) {i j : Nat} (x4 x5 x7 : Int32) (K4 : MS → Int32 → Int32 → Option (Int32 × MS)) (K125 : MS → Int32 → Int32 → Int32 → Int32 → Int32 → Option (Int32 × MS)) : M_matched_L140 (m + 1) s (nI i) (nI (7 * i)) x4 x5 (nI j) x7 (nI 7) K4 K125 = K125 s (nI i) (nI (7 * i)) x4 (if x5 = 0 then if x7 = 0 then 0 else 1 else 1) (nI (j + 1)) := by
  rw [M_matched_L140]
  rw [if_pos (show (7 : Int32) ≤ nI 7 by decide)]
  unfold M_matched_L201 M_matched_L206
  rw [nI_1]
  by_cases z : x5 = 0
  · rw [if_pos z, if_pos z]
    by_cases w : x7 = 0
    · rw [if_pos w, if_pos w]
    · rw [if_neg w, if_neg w]
  · rw [if_neg z, if_neg z]
theorem L140_0 (s : MS) {i j : Nat} (x4 x5 : Int32) (hi : i < 512) (hj : j < 512) (K4 : MS → Int32 → Int32 → Option (Int32 × MS)) (K125 : MS → Int32 → Int32 → Int32 → Int32 → Int32 → Option (Int32 × MS)) : ∀ d m q, 7 - q = d → q ≤ 7 → d < m → M_matched_L140 m s (nI i) (nI (7 * i)) x4 x5 (nI j) 0 (nI q) K4 K125 = K125 s (nI i) (nI (7 * i)) x4 (if x5 = 0 then 0 else 1) (nI (j + 1)) := by
  intro d
  induction d with
  | zero =>
    intro m q hd hq hm
    obtain ⟨m, rfl⟩ : ∃ m', m = m' + 1 := ⟨m - 1, by omega⟩
    have : q = 7 := by omega
    subst this
    rw [L140_e, if_pos rfl]
  | succ d ih =>
    intro m q hd hq hm
    obtain ⟨m, rfl⟩ : ∃ m', m = m' + 1 := ⟨m - 1, by omega⟩
    rw [L140_s _ _ _ _ _ (by omega) hi hj, if_pos rfl]
    exact ih m (q + 1) (by omega) (by omega) (by omega)
theorem L140_1 (s : MS) {i j : Nat} (x4 x5 : Int32) (hi : i < 512) (hj : j < 512) (K4 : MS → Int32 → Int32 → Option (Int32 × MS)) (K125 : MS → Int32 → Int32 → Int32 → Int32 → Int32 → Option (Int32 × MS)) : ∀ d m q, 7 - q = d → q ≤ 7 → d < m → ((∀ a, q ≤ a → a < 7 → s.2.2.2 60 (7 * j + a) = s.2.2.2 62 (7 * i + a)) → M_matched_L140 m s (nI i) (nI (7 * i)) x4 x5 (nI j) 1 (nI q) K4 K125 = K125 s (nI i) (nI (7 * i)) x4 1 (nI (j + 1))) ∧ ((¬ ∀ a, q ≤ a → a < 7 → s.2.2.2 60 (7 * j + a) = s.2.2.2 62 (7 * i + a)) → M_matched_L140 m s (nI i) (nI (7 * i)) x4 x5 (nI j) 1 (nI q) K4 K125 = K125 s (nI i) (nI (7 * i)) x4 (if x5 = 0 then 0 else 1) (nI (j + 1))) := by
  intro d
  induction d with
  | zero =>
    intro m q hd hq hm
    obtain ⟨m, rfl⟩ : ∃ m', m = m' + 1 := ⟨m - 1, by omega⟩
    have : q = 7 := by omega
    subst this
    refine ⟨fun _ => ?_, fun w => absurd (fun a h1 h2 => by omega) w⟩
    rw [L140_e, if_neg (show ¬ (1 : Int32) = 0 by decide)]
    by_cases z : x5 = 0
    · rw [if_pos z]
    · rw [if_neg z]
  | succ d ih =>
    intro m q hd hq hm
    obtain ⟨m, rfl⟩ : ∃ m', m = m' + 1 := ⟨m - 1, by omega⟩
    rw [L140_s _ _ _ _ _ (by omega) hi hj, if_neg (show ¬ (1 : Int32) = 0 by decide)]
    obtain ⟨i1, i0⟩ := ih m (q + 1) (by omega) (by omega) (by omega)
    by_cases w : s.2.2.2 60 (7 * j + q) = s.2.2.2 62 (7 * i + q)
    · rw [if_pos w]
      refine ⟨fun v => i1 (fun a h1 h2 => v a (by omega) h2), fun v => i0 (fun z => v (fun a h1 h2 => ?_))⟩
      by_cases e : a = q
      · subst e; exact w
      · exact z a (by omega) h2
    · rw [if_neg w]
      refine ⟨fun v => absurd (v q (Nat.le_refl _) (by omega)) w, fun _ => ?_⟩
      exact L140_0 s x4 x5 hi hj K4 K125 d m (q + 1) (by omega) (by omega) (by omega)
/-- the rest behind the answers: x the earlier debits -/
theorem L125_1 {i n6 : Nat} (x4 : Int32) (h59 : s.1 59 = nI n6) (hi : i < 512) (h6 : n6 ≤ 512) (K4 : MS → Int32 → Int32 → Option (Int32 × MS)) : ∀ d m j, n6 - j = d → j ≤ n6 → d < m → M_matched_L125 m s (nI i) (nI (7 * i)) x4 1 (nI j) K4 = if x4 = 1 then M_matched_L230 s (nI i) (nI (7 * i)) 1 K4 else M_matched_L229 s (nI i) (nI (7 * i)) K4 := by
  intro d
  induction d with
  | zero =>
    intro m j hd hj hm
    obtain ⟨m, rfl⟩ : ∃ m', m = m' + 1 := ⟨m - 1, by omega⟩
    have : j = n6 := by omega
    subst this
    rw [M_matched_L125]
    rw [if_pos (by rw [h59]; exact Int32.le_refl _), if_neg (show ¬ (1 : Int32) = 0 by decide)]
  | succ d ih =>
    intro m j hd hj hm
    obtain ⟨m, rfl⟩ : ∃ m', m = m' + 1 := ⟨m - 1, by omega⟩
    rw [M_matched_L125]
    rw [if_neg (by rw [h59]; exact nI_ge (by omega) (by omega))]
    obtain ⟨a1, a0⟩ := L140_1 s x4 1 hi (j := j) (by omega) K4 (fun sk xv2k xv3k xv4k xv5k xv6k => M_matched_L125 m sk xv2k xv3k xv4k xv5k xv6k K4) 7 mfu 0 (by omega) (by omega) (by unfold mfu; omega)
    have I := ih m (j + 1) (by omega) (by omega) (by omega)
    rw [nI_0] at a1 a0
    by_cases w : ∀ a, 0 ≤ a → a < 7 → s.2.2.2 60 (7 * j + a) = s.2.2.2 62 (7 * i + a)
    · exact (a1 w).trans I
    · exact (a0 w).trans I
theorem L125_0 {i n6 : Nat} (x4 : Int32) (h59 : s.1 59 = nI n6) (hi : i < 512) (h6 : n6 ≤ 512) (K4 : MS → Int32 → Int32 → Option (Int32 × MS)) : ∀ d m j, n6 - j = d → j ≤ n6 → d < m → ((∃ k, j ≤ k ∧ k < n6 ∧ amt s i k) → M_matched_L125 m s (nI i) (nI (7 * i)) x4 0 (nI j) K4 = if x4 = 1 then M_matched_L230 s (nI i) (nI (7 * i)) 1 K4 else M_matched_L229 s (nI i) (nI (7 * i)) K4) ∧ ((¬ ∃ k, j ≤ k ∧ k < n6 ∧ amt s i k) → M_matched_L125 m s (nI i) (nI (7 * i)) x4 0 (nI j) K4 = M_matched_L229 s (nI i) (nI (7 * i)) K4) := by
  intro d
  induction d with
  | zero =>
    intro m j hd hj hm
    obtain ⟨m, rfl⟩ : ∃ m', m = m' + 1 := ⟨m - 1, by omega⟩
    have : j = n6 := by omega
    subst this
    refine ⟨fun ⟨k, h1, h2, _⟩ => by omega, fun _ => ?_⟩
    rw [M_matched_L125]
    rw [if_pos (by rw [h59]; exact Int32.le_refl _), if_pos rfl]
    by_cases z : x4 = 1
    · rw [if_pos z]
    · rw [if_neg z]
  | succ d ih =>
    intro m j hd hj hm
    obtain ⟨m, rfl⟩ : ∃ m', m = m' + 1 := ⟨m - 1, by omega⟩
    have L := L125_1 x4 h59 hi h6 K4 d m (j + 1) (by omega) (by omega) (by omega)
    have lj : j < n6 := by omega
    rw [M_matched_L125]
    rw [if_neg (by rw [h59]; exact nI_ge (by omega) (by omega))]
    obtain ⟨a1, a0⟩ := L140_1 s x4 0 hi (j := j) (by omega) K4 (fun sk xv2k xv3k xv4k xv5k xv6k => M_matched_L125 m sk xv2k xv3k xv4k xv5k xv6k K4) 7 mfu 0 (by omega) (by omega) (by unfold mfu; omega)
    obtain ⟨i1, i0⟩ := ih m (j + 1) (by omega) (by omega) (by omega)
    rw [nI_0] at a1 a0
    rw [if_pos rfl] at a0
    by_cases w : ∀ a, 0 ≤ a → a < 7 → s.2.2.2 60 (7 * j + a) = s.2.2.2 62 (7 * i + a)
    · refine ⟨fun _ => (a1 w).trans L, fun v => absurd ⟨j, Nat.le_refl _, lj, fun q hq => w q (Nat.zero_le _) hq⟩ v⟩
    · refine ⟨fun ⟨k, h1, h2, h3⟩ => (a0 w).trans (i1 ⟨k, ?_, h2, h3⟩), fun v => (a0 w).trans (i0 (fun ⟨k, h1, h2, h3⟩ => v ⟨k, by omega, h2, h3⟩))⟩
      by_cases e : k = j
      · subst e; exact absurd (fun a _ ha => h3 a ha) w
      · omega
theorem L234_0 {i : Nat} (hi : i < 512) (K4 : MS → Int32 → Int32 → Option (Int32 × MS)) : ∀ d m j, i - j = d → j ≤ i → d < m → M_matched_L234 m s 0 (nI i) (nI (7 * i)) (nI j) K4 = K4 s 0 (nI (i + 1)) := by
  intro d
  induction d with
  | zero =>
    intro m j hd hj hm
    obtain ⟨m, rfl⟩ : ∃ m', m = m' + 1 := ⟨m - 1, by omega⟩
    have : j = i := by omega
    subst this
    rw [M_matched_L234]
    rw [if_pos (Int32.le_refl _), nI_1]
  | succ d ih =>
    intro m j hd hj hm
    obtain ⟨m, rfl⟩ : ∃ m', m = m' + 1 := ⟨m - 1, by omega⟩
    rw [M_matched_L234]
    rw [if_neg (nI_ge (by omega) (by omega)), if_pos rfl]
    unfold M_matched_L292 M_matched_L293
    rw [nI_1]
    exact ih m (j + 1) (by omega) (by omega) (by omega)
theorem L234_1 {i : Nat} (hi : i < 512) (K4 : MS → Int32 → Int32 → Option (Int32 × MS)) : ∀ d m j, i - j = d → j ≤ i → d < m → ((∃ k, j ≤ k ∧ k < i ∧ dmt s i k) → M_matched_L234 m s 1 (nI i) (nI (7 * i)) (nI j) K4 = K4 s 0 (nI (i + 1))) ∧ ((¬ ∃ k, j ≤ k ∧ k < i ∧ dmt s i k) → M_matched_L234 m s 1 (nI i) (nI (7 * i)) (nI j) K4 = K4 s 1 (nI (i + 1))) := by
  intro d
  induction d with
  | zero =>
    intro m j hd hj hm
    obtain ⟨m, rfl⟩ : ∃ m', m = m' + 1 := ⟨m - 1, by omega⟩
    have : j = i := by omega
    subst this
    refine ⟨fun ⟨k, h1, h2, _⟩ => by omega, fun _ => ?_⟩
    rw [M_matched_L234]
    rw [if_pos (Int32.le_refl _), nI_1]
  | succ d ih =>
    intro m j hd hj hm
    obtain ⟨m, rfl⟩ : ∃ m', m = m' + 1 := ⟨m - 1, by omega⟩
    have L := L234_0 (s := s) hi K4 d m (j + 1) (by omega) (by omega) (by omega)
    have lj : j < i := by omega
    obtain ⟨i1, i0⟩ := ih m (j + 1) (by omega) (by omega) (by omega)
    have base : M_matched_L234 (m + 1) s 1 (nI i) (nI (7 * i)) (nI j) K4 = if s.2.2.2 62 (7 * j) = s.2.2.2 62 (7 * i) then if s.2.2.2 62 (7 * j + 1) = s.2.2.2 62 (7 * i + 1) then M_matched_L234 m s 0 (nI i) (nI (7 * i)) (nI (j + 1)) K4 else M_matched_L234 m s 1 (nI i) (nI (7 * i)) (nI (j + 1)) K4 else M_matched_L234 m s 1 (nI i) (nI (7 * i)) (nI (j + 1)) K4 := by
      rw [M_matched_L234]
      rw [if_neg (nI_ge (by omega) (by omega)), if_neg (show ¬ (1 : Int32) = 0 by decide)]
      unfold M_matched_L292 M_matched_L288 M_matched_L293
      have e0 : (7 : Int32) * nI j = nI (7 * j) := pk_mul 7 _
      have e1 : nI (7 * j) + 1 = nI (7 * j + 1) := nI_1 _
      have e2 : nI (7 * i) + 1 = nI (7 * i + 1) := nI_1 _
      have e3 : nI j + 1 = nI (j + 1) := nI_1 _
      have j0 : (nI (7 * j)).toNatClampNeg = 7 * j := nI_clamp (by omega)
      have j1 : (nI (7 * j + 1)).toNatClampNeg = 7 * j + 1 := nI_clamp (by omega)
      have j2 : (nI (7 * i)).toNatClampNeg = 7 * i := nI_clamp (by omega)
      have j3 : (nI (7 * i + 1)).toNatClampNeg = 7 * i + 1 := nI_clamp (by omega)
      have b0 : (nI (7 * j) < 0 ∨ 4200 ≤ 7 * j) = False := ixF (by omega) (by omega)
      have b1 : (nI (7 * j + 1) < 0 ∨ 4200 ≤ 7 * j + 1) = False := ixF (by omega) (by omega)
      have b2 : (nI (7 * i) < 0 ∨ 4200 ≤ 7 * i) = False := ixF (by omega) (by omega)
      have b3 : (nI (7 * i + 1) < 0 ∨ 4200 ≤ 7 * i + 1) = False := ixF (by omega) (by omega)
      simp only [e0, e1, e2, e3, j0, j1, j2, j3, b0, b1, b2, b3, if_false, lg_eq]
    rw [base]
    by_cases a : s.2.2.2 62 (7 * j) = s.2.2.2 62 (7 * i)
    · rw [if_pos a]
      by_cases b : s.2.2.2 62 (7 * j + 1) = s.2.2.2 62 (7 * i + 1)
      · rw [if_pos b]
        exact ⟨fun _ => L, fun v => absurd ⟨j, Nat.le_refl _, lj, a, b⟩ v⟩
      · rw [if_neg b]
        refine ⟨fun ⟨k, h1, h2, h3⟩ => i1 ⟨k, ?_, h2, h3⟩, fun v => i0 (fun ⟨k, h1, h2, h3⟩ => v ⟨k, by omega, h2, h3⟩)⟩
        by_cases e : k = j
        · subst e; exact absurd h3.2 b
        · omega
    · rw [if_neg a]
      refine ⟨fun ⟨k, h1, h2, h3⟩ => i1 ⟨k, ?_, h2, h3⟩, fun v => i0 (fun ⟨k, h1, h2, h3⟩ => v ⟨k, by omega, h2, h3⟩)⟩
      by_cases e : k = j
      · subst e; exact absurd h3.1 a
      · omega
theorem L27_s {i n5 : Nat} (h57 : s.1 57 = nI n5) (hi : i < 512) (h5 : n5 ≤ 512) (K4 : MS → Int32 → Int32 → Option (Int32 × MS)) : ∀ d m j, n5 - j = d → j ≤ n5 → d < m → M_matched_L27 m s (nI i) (nI (7 * i)) (nI (pcN s i j)) (nI j) K4 = M_matched_L125 mfu s (nI i) (nI (7 * i)) (nI (pcN s i n5)) 0 0 K4 := by
  intro d
  induction d with
  | zero =>
    intro m j hd hj hm
    obtain ⟨m, rfl⟩ : ∃ m', m = m' + 1 := ⟨m - 1, by omega⟩
    have : j = n5 := by omega
    subst this
    rw [M_matched_L27]
    rw [if_pos (by rw [h57]; exact Int32.le_refl _)]
  | succ d ih =>
    intro m j hd hj hm
    obtain ⟨m, rfl⟩ : ∃ m', m = m' + 1 := ⟨m - 1, by omega⟩
    have I := ih m (j + 1) (by omega) (by omega) (by omega)
    have base : M_matched_L27 (m + 1) s (nI i) (nI (7 * i)) (nI (pcN s i j)) (nI j) K4 = if s.2.2.2 58 (3 * j) = s.2.2.2 62 (7 * i + 4) then if s.2.2.2 58 (3 * j + 1) = s.2.2.2 62 (7 * i + 2) then if s.2.2.2 58 (3 * j + 2) = s.2.2.2 62 (7 * i + 3) then M_matched_L27 m s (nI i) (nI (7 * i)) (nI (pcN s i j + 1)) (nI (j + 1)) K4 else M_matched_L27 m s (nI i) (nI (7 * i)) (nI (pcN s i j)) (nI (j + 1)) K4 else M_matched_L27 m s (nI i) (nI (7 * i)) (nI (pcN s i j)) (nI (j + 1)) K4 else M_matched_L27 m s (nI i) (nI (7 * i)) (nI (pcN s i j)) (nI (j + 1)) K4 := by
      rw [M_matched_L27]
      rw [if_neg (by rw [h57]; exact nI_ge (by omega) (by omega))]
      unfold M_matched_L109 M_matched_L110
      have e0 : (3 : Int32) * nI j = nI (3 * j) := pk_mul 3 _
      have e1 : nI (3 * j) + 1 = nI (3 * j + 1) := nI_1 _
      have e2 : nI (3 * j) + 2 = nI (3 * j + 2) := nI_add _ 2
      have e3 : nI j + 1 = nI (j + 1) := nI_1 _
      have e4 : nI (7 * i) + 4 = nI (7 * i + 4) := nI_add _ 4
      have e5 : nI (7 * i) + 2 = nI (7 * i + 2) := nI_add _ 2
      have e6 : nI (7 * i) + 3 = nI (7 * i + 3) := nI_add _ 3
      have e7 : nI (pcN s i j) + 1 = nI (pcN s i j + 1) := nI_1 _
      have e8 : nI (pcN s i j) + 0 = nI (pcN s i j) := Int32.add_zero _
      have j0 : (nI (3 * j)).toNatClampNeg = 3 * j := nI_clamp (by omega)
      have j1 : (nI (3 * j + 1)).toNatClampNeg = 3 * j + 1 := nI_clamp (by omega)
      have j2 : (nI (3 * j + 2)).toNatClampNeg = 3 * j + 2 := nI_clamp (by omega)
      have j4 : (nI (7 * i + 4)).toNatClampNeg = 7 * i + 4 := nI_clamp (by omega)
      have j5 : (nI (7 * i + 2)).toNatClampNeg = 7 * i + 2 := nI_clamp (by omega)
      have j6 : (nI (7 * i + 3)).toNatClampNeg = 7 * i + 3 := nI_clamp (by omega)
      have b0 : (nI (3 * j) < 0 ∨ 1800 ≤ 3 * j) = False := ixF (by omega) (by omega)
      have b1 : (nI (3 * j + 1) < 0 ∨ 1800 ≤ 3 * j + 1) = False := ixF (by omega) (by omega)
      have b2 : (nI (3 * j + 2) < 0 ∨ 1800 ≤ 3 * j + 2) = False := ixF (by omega) (by omega)
      have b4 : (nI (7 * i + 4) < 0 ∨ 4200 ≤ 7 * i + 4) = False := ixF (by omega) (by omega)
      have b5 : (nI (7 * i + 2) < 0 ∨ 4200 ≤ 7 * i + 2) = False := ixF (by omega) (by omega)
      have b6 : (nI (7 * i + 3) < 0 ∨ 4200 ≤ 7 * i + 3) = False := ixF (by omega) (by omega)
      simp only [e0, e1, e2, e3, e4, e5, e6, e7, e8, j0, j1, j2, j4, j5, j6, b0, b1, b2, b4, b5, b6, if_false, lg_eq]
    rw [base]
    rw [pcN] at I
    by_cases a : s.2.2.2 58 (3 * j) = s.2.2.2 62 (7 * i + 4)
    · rw [if_pos a]
      by_cases b : s.2.2.2 58 (3 * j + 1) = s.2.2.2 62 (7 * i + 2)
      · rw [if_pos b]
        by_cases c : s.2.2.2 58 (3 * j + 2) = s.2.2.2 62 (7 * i + 3)
        · rw [if_pos c]; rw [if_pos ⟨a, b, c⟩] at I; exact I
        · rw [if_neg c]; rw [if_neg (fun w => c w.2.2), Nat.add_zero] at I; exact I
      · rw [if_neg b]; rw [if_neg (fun w => b w.2.1), Nat.add_zero] at I; exact I
    · rw [if_neg a]; rw [if_neg (fun w => a w.1), Nat.add_zero] at I; exact I
/-- a debit that doesn't match -/
def fm (s : MS) (n5 n6 i : Nat) : Prop := ¬ pcN s i n5 = 1 ∨ (¬ ∃ k, k < n6 ∧ amt s i k) ∨ ∃ k, k < i ∧ dmt s i k
theorem L27_1 {i n5 n6 : Nat} (h57 : s.1 57 = nI n5) (h59 : s.1 59 = nI n6) (hi : i < 512) (h5 : n5 ≤ 512) (h6 : n6 ≤ 512) (K4 : MS → Int32 → Int32 → Option (Int32 × MS)) : (fm s n5 n6 i → M_matched_L27 mfu s (nI i) (nI (7 * i)) 0 0 K4 = K4 s 0 (nI (i + 1))) ∧ (¬ fm s n5 n6 i → M_matched_L27 mfu s (nI i) (nI (7 * i)) 0 0 K4 = K4 s 1 (nI (i + 1))) := by
  have e0 := L27_s h57 hi h5 K4 n5 mfu 0 (by omega) (by omega) (by unfold mfu; omega)
  rw [pcN, nI_0] at e0
  obtain ⟨a1, a0⟩ := L125_0 (s := s) (nI (pcN s i n5)) h59 hi h6 K4 n6 mfu 0 (by omega) (by omega) (by unfold mfu; omega)
  rw [nI_0] at a1 a0
  have z0 := L234_0 (s := s) hi K4 i mfu 0 (by omega) (by omega) (by unfold mfu; omega)
  obtain ⟨b1, b0⟩ := L234_1 (s := s) hi K4 i mfu 0 (by omega) (by omega) (by unfold mfu; omega)
  rw [nI_0] at z0 b1 b0
  have c9 : M_matched_L229 s (nI i) (nI (7 * i)) K4 = K4 s 0 (nI (i + 1)) := z0
  have hp := pcN_le s i n5
  have ep : nI (pcN s i n5) = 1 ↔ pcN s i n5 = 1 := nI_eq (b := 1) (by omega) (by omega)
  by_cases p1 : ∃ k, k < n6 ∧ amt s i k
  · have a1' := a1 (by obtain ⟨k, h1, h2⟩ := p1; exact ⟨k, Nat.zero_le _, h1, h2⟩)
    by_cases p0 : pcN s i n5 = 1
    · rw [if_pos (ep.mpr p0)] at a1'
      by_cases p2 : ∃ k, k < i ∧ dmt s i k
      · refine ⟨fun _ => e0.trans (a1'.trans (b1 ?_)), fun w => absurd (Or.inr (Or.inr p2)) w⟩
        obtain ⟨k, h1, h2⟩ := p2; exact ⟨k, Nat.zero_le _, h1, h2⟩
      · refine ⟨fun w => ?_, fun _ => e0.trans (a1'.trans (b0 (fun ⟨k, _, h1, h2⟩ => p2 ⟨k, h1, h2⟩)))⟩
        rcases w with w | w | w
        · exact absurd p0 w
        · exact absurd p1 w
        · exact absurd w p2
    · rw [if_neg (fun v => p0 (ep.mp v))] at a1'
      exact ⟨fun _ => e0.trans (a1'.trans c9), fun w => absurd (Or.inl p0) w⟩
  · have a0' := a0 (fun ⟨k, _, h1, h2⟩ => p1 ⟨k, h1, h2⟩)
    exact ⟨fun _ => e0.trans (a0'.trans c9), fun w => absurd (Or.inr (Or.inl p1)) w⟩
theorem L4_s {n3 n5 n6 : Nat} (h61 : s.1 61 = nI n3) (h57 : s.1 57 = nI n5) (h59 : s.1 59 = nI n6) (h3 : n3 ≤ 512) (h5 : n5 ≤ 512) (h6 : n6 ≤ 512) : ∀ d m j, n3 - j = d → j ≤ n3 → d < m → ((∃ i, j ≤ i ∧ i < n3 ∧ fm s n5 n6 i) → M_matched_L4 m s 1 (nI j) = some (0, s)) ∧ ((¬ ∃ i, j ≤ i ∧ i < n3 ∧ fm s n5 n6 i) → M_matched_L4 m s 1 (nI j) = some (1, s)) := by
  intro d
  induction d with
  | zero =>
    intro m j hd hj hm
    obtain ⟨m, rfl⟩ : ∃ m', m = m' + 1 := ⟨m - 1, by omega⟩
    have : j = n3 := by omega
    subst this
    refine ⟨fun ⟨k, h1, h2, _⟩ => by omega, fun _ => ?_⟩
    rw [M_matched_L4]
    rw [if_pos (by rw [h61]; exact Int32.le_refl _), if_pos (Or.inr rfl)]
  | succ d ih =>
    intro m j hd hj hm
    obtain ⟨m, rfl⟩ : ∃ m', m = m' + 1 := ⟨m - 1, by omega⟩
    obtain ⟨i1, i0⟩ := ih m (j + 1) (by omega) (by omega) (by omega)
    obtain ⟨q1, q0⟩ := L27_1 h57 h59 (i := j) (by omega) h5 h6 (fun sk xv1k xv2k => M_matched_L4 m sk xv1k xv2k)
    have base : M_matched_L4 (m + 1) s 1 (nI j) = M_matched_L27 mfu s (nI j) (nI (7 * j)) 0 0 (fun sk xv1k xv2k => M_matched_L4 m sk xv1k xv2k) := by
      rw [M_matched_L4]
      rw [if_neg (by rw [h61]; exact nI_ge (by omega) (by omega)), if_neg (show ¬ (1 : Int32) = 0 by decide), show (7 : Int32) * nI j = nI (7 * j) from pk_mul 7 _]
    rw [base]
    by_cases z : fm s n5 n6 j
    · have lj : j < n3 := by omega
      obtain ⟨m, rfl⟩ : ∃ m', m = m' + 1 := ⟨m - 1, by omega⟩
      refine ⟨fun _ => (q1 z).trans ?_, fun v => absurd ⟨j, Nat.le_refl _, lj, z⟩ v⟩
      show M_matched_L4 (m + 1) s 0 (nI (j + 1)) = _
      rw [M_matched_L4]
      by_cases w : s.1 61 ≤ nI (j + 1)
      · rw [if_pos w, if_pos (Or.inl rfl)]
      · rw [if_neg w, if_pos rfl, if_pos (Or.inl rfl)]
    · refine ⟨fun ⟨k, h1, h2, h3⟩ => (q0 z).trans (i1 ⟨k, ?_, h2, h3⟩), fun v => (q0 z).trans (i0 (fun ⟨k, h1, h2, h3⟩ => v ⟨k, by omega, h2, h3⟩))⟩
      by_cases e : k = j
      · subst e; exact absurd h3 z
      · omega
end MATCH
