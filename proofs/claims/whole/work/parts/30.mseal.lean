/-! seals: what the reference does -/
def mq (s : MS) (key : Int32) (rs : Nat) (g : Nat → Int64) (j : Nat) : Prop := s.2.2.1 1 j = key ∧ s.2.2.1 2 j = nI rs ∧ ∀ i, i < rs → s.2.2.2 3 (12 * j + i) = g i
/-- the state with a seal more -/
def sealN (s : MS) (key : Int32) (rs : Nat) (g : Nat → Int64) : MS :=
  (va_up s.1 0 (s.1 0 + 1), s.2.1, va_up (va_up s.2.2.1 1 (upd (s.2.2.1 1) (s.1 0).toNatClampNeg key)) 2 (upd (s.2.2.1 2) (s.1 0).toNatClampNeg (nI rs)), va_up s.2.2.2 3 (fun a => if 12 * (s.1 0).toNatClampNeg ≤ a ∧ a < 12 * (s.1 0).toNatClampNeg + rs then g (a - 12 * (s.1 0).toNatClampNeg) else s.2.2.2 3 a))
/-- sealing: the number, the state, how many seals there are then and how much room their list has -/
def SealR (s : MS) (key : Int32) (rs : Nat) (g : Nat → Int64) (n cp : Nat → Nat) (r : Int32) (s' : MS) (n' cp' : Nat → Nat) : Prop :=
  (∃ j, j < n 4 ∧ mq s key rs g j ∧ (∀ k, k < j → ¬ mq s key rs g k) ∧ r = nI (j + 1) ∧ s' = s ∧ n' = n ∧ cp' = cp) ∨
  ((∀ j, j < n 4 → ¬ mq s key rs g j) ∧ r = nI (n 4 + 1) ∧ s' = sealN s key rs g ∧ n' = va_up n 4 (n 4 + 1) ∧ cp' = va_up cp 16 (if n 4 = cp 16 then al_cap (cp 16) else cp 16))
theorem mq.c {s : MS} {key : Int32} {rs j : Nat} {g g' : Nat → Int64} (h : mq s key rs g j) (e : ∀ i, i < rs → g i = g' i) : mq s key rs g' j := ⟨h.1, h.2.1, fun i hi => (h.2.2 i hi).trans (e i hi)⟩
theorem SealR.c {s : MS} {key : Int32} {rs : Nat} {g g' : Nat → Int64} {n cp : Nat → Nat} {r : Int32} {s' : MS} {n' cp' : Nat → Nat} (h : SealR s key rs g n cp r s' n' cp') (e : ∀ i, i < rs → g i = g' i) : SealR s key rs g' n cp r s' n' cp' := by
  have e' : ∀ i, i < rs → g' i = g i := fun i hi => (e i hi).symm
  rcases h with ⟨j, h1, h2, h3, h4⟩ | ⟨h1, h2, h3, h4⟩
  · exact Or.inl ⟨j, h1, h2.c e, fun k hk z => h3 k hk (z.c e'), h4⟩
  · refine Or.inr ⟨fun j hj z => h1 j hj (z.c e'), h2, ?_, h4⟩
    rw [h3]
    unfold sealN
    have : (fun a => if 12 * (s.1 0).toNatClampNeg ≤ a ∧ a < 12 * (s.1 0).toNatClampNeg + rs then g (a - 12 * (s.1 0).toNatClampNeg) else s.2.2.2 3 a) = (fun a => if 12 * (s.1 0).toNatClampNeg ≤ a ∧ a < 12 * (s.1 0).toNatClampNeg + rs then g' (a - 12 * (s.1 0).toNatClampNeg) else s.2.2.2 3 a) := by
      funext a
      by_cases z : 12 * (s.1 0).toNatClampNeg ≤ a ∧ a < 12 * (s.1 0).toNatClampNeg + rs
      · rw [if_pos z, if_pos z, e _ (by omega)]
      · rw [if_neg z, if_neg z]
    rw [this]
def sL3 (s : MS) (L : Nat → Int64) : MS := (s.1, s.2.1, s.2.2.1, va_up s.2.2.2 3 L)
theorem sL3_L (s : MS) (L : Nat → Int64) (i : Nat) (v : Int64) : mL (sL3 s L) 3 i v = sL3 s (vp_updL L i v) := by
  show (s.1, s.2.1, s.2.2.1, va_up (va_up s.2.2.2 3 L) 3 (vp_updL (va_up s.2.2.2 3 L 3) i v)) = _
  rw [va_up2, va_up_self]
  rfl
theorem M_seal_loop {s : MS} {rs n4 : Nat} (h5 : s.1 5 = nI rs) (hrs : rs ≤ 12) (h0 : s.1 0 = nI n4) (hn4 : n4 < 4096) :
    ∀ (d i m : Nat) (L : Nat → Int64), rs - i = d → i ≤ rs → d < m → ∃ L', M_seal_L49 m (sL3 s L) (nI i) = some (nI (n4 + 1), mI (sL3 s L') 0 (s.1 0 + 1)) ∧ (∀ a, L' a = if 12 * n4 + i ≤ a ∧ a < 12 * n4 + rs then s.2.2.2 4 (a - 12 * n4) else L a) := by
  intro d
  induction d with
  | zero =>
    intro i m L hd hi hm
    obtain ⟨m, rfl⟩ : ∃ q, m = q + 1 := ⟨m - 1, by omega⟩
    refine ⟨L, ?_, fun a => by rw [if_neg (by omega)]⟩
    unfold M_seal_L49
    rw [show (sL3 s L).1 5 = nI rs from h5, if_pos (nI_le (by omega) (by omega))]
    show some (va_up s.1 0 (s.1 0 + 1) 0, mI (sL3 s L) 0 (s.1 0 + 1)) = some (nI (n4 + 1), mI (sL3 s L) 0 (s.1 0 + 1))
    rw [va_up_self, h0, nI_1]
  | succ d ih =>
    intro i m L hd hi hm
    obtain ⟨m, rfl⟩ : ∃ q, m = q + 1 := ⟨m - 1, by omega⟩
    obtain ⟨L', g1, g2⟩ := ih (i + 1) m (vp_updL L (12 * n4 + i) (s.2.2.2 4 i)) (by omega) (by omega) (by omega)
    refine ⟨L', ?_, fun a => ?_⟩
    · rw [← g1]
      conv => lhs; unfold M_seal_L49
      have ea : (12 : Int32) * nI n4 + nI i = nI (12 * n4 + i) := by rw [show (12 : Int32) = nI 12 from rfl, pk_mul, nI_add]
      rw [show (sL3 s L).1 5 = nI rs from h5, if_neg (nI_ge (by omega) (by omega)), if_neg (nI_in (by omega) (by omega)), show (sL3 s L).1 0 = nI n4 from h0, ea, if_neg (nI_in (by omega) (by omega)), nI_clamp (show 12 * n4 + i < 2 ^ 31 by omega), nI_clamp (show i < 2 ^ 31 by omega)]
      dsimp only [lt1]
      rw [sL3_L, nI_1]
      rfl
    · rw [g2 a]
      by_cases z : 12 * n4 + (i + 1) ≤ a ∧ a < 12 * n4 + rs
      · rw [if_pos z, if_pos (by omega)]
      · rw [if_neg z]
        by_cases z2 : a = 12 * n4 + i
        · subst z2; rw [pk_uLs, if_pos (by omega), show 12 * n4 + i - 12 * n4 = i by omega]
        · rw [pk_uLn z2, if_neg (by omega)]
theorem M_seal_spec {s : MS} {rs : Nat} {n cp : Nat → Nat} (h5 : s.1 5 = nI rs) (hrs : rs ≤ 12) (h0 : s.1 0 = nI (n 4)) (hn4 : n 4 < 4096) (sort : Int32) (num : Int64) :
    ∃ r s' n' cp', M_seal s sort num = some (r, s') ∧ SealR s (256 * sort + num.toInt32) rs (s.2.2.2 4) n cp r s' n' cp' := by
  obtain ⟨r, h1, h2⟩ := M_find_spec h5 hrs h0 (by omega) sort num
  rcases h2 with ⟨rfl, h2⟩ | ⟨j, hj, rfl, h2, h3⟩
  · have s9 : MS := s
    obtain ⟨L', g1, g2⟩ := M_seal_loop (s := mA (mA s 1 (n 4) (256 * sort + num.toInt32)) 2 (n 4) (nI rs)) (rs := rs) (n4 := n 4) h5 hrs h0 hn4 rs 0 mfu (s.2.2.2 3) (by omega) (by omega) (by unfold mfu; omega)
    have e3 : sL3 (mA (mA s 1 (n 4) (256 * sort + num.toInt32)) 2 (n 4) (nI rs)) (s.2.2.2 3) = mA (mA s 1 (n 4) (256 * sort + num.toInt32)) 2 (n 4) (nI rs) := by
      show (_, _, _, va_up s.2.2.2 3 (s.2.2.2 3)) = (_, _, _, s.2.2.2)
      rw [show va_up s.2.2.2 3 (s.2.2.2 3) = s.2.2.2 from by
        funext k
        by_cases e : k = 3
        · subst e; rw [va_up_self]
        · rw [va_up_ne _ _ e]]
      rfl
    refine ⟨nI (n 4 + 1), _, _, _, ?_, Or.inr ⟨h2, rfl, rfl, rfl, rfl⟩⟩
    unfold M_seal
    rw [h1]
    dsimp only [Option.bind_some, lt1]
    rw [if_pos (by decide), h0, if_neg (nI_in (by omega) (by omega)), nI_clamp (by omega)]
    rw [show (mA s 1 (n 4) (256 * sort + num.toInt32)).1 0 = nI (n 4) from h0, show (mA s 1 (n 4) (256 * sort + num.toInt32)).1 5 = nI rs from h5, if_neg (nI_in (by omega) (by omega)), nI_clamp (by omega), show (0 : Int32) = nI 0 from rfl, ← e3, g1]
    have hL : L' = (fun a => if 12 * (s.1 0).toNatClampNeg ≤ a ∧ a < 12 * (s.1 0).toNatClampNeg + rs then s.2.2.2 4 (a - 12 * (s.1 0).toNatClampNeg) else s.2.2.2 3 a) := by
      funext a
      rw [g2 a, h0, nI_clamp (by omega)]
      rfl
    unfold sealN
    rw [← hL, h0, nI_clamp (show n 4 < 2 ^ 31 by omega)]
    congr 1
    show (nI (n 4 + 1), (va_up s.1 0 (s.1 0 + 1), _, _, _)) = _
    rw [h0]
    rfl
  · refine ⟨nI (j + 1), s, n, cp, ?_, Or.inl ⟨j, hj, h2, h3, rfl, rfl, rfl, rfl⟩⟩
    unfold M_seal
    rw [h1]
    dsimp only [Option.bind_some, lt1]
    rw [if_neg (nI_nle (by omega) (by omega))]
/-- a seal that is looked at: whether it is that of the key and the row -/
def Good (s : MS) (key : Int32) (rs : Nat) (g : Nat → Int64) (n4 : Nat) (v : Int64) : Prop := ∃ j, j < n4 ∧ v = lN (j + 1) ∧ mq s key rs g j
/-- seals are apart -/
def Dist (s : MS) (n4 : Nat) : Prop := ∀ key rs g j k, rs ≤ 12 → j < n4 → k < n4 → mq s key rs g j → mq s key rs g k → j = k
theorem M_isGood_spec {s : MS} {rs n4 : Nat} (h5 : s.1 5 = nI rs) (hrs : rs ≤ 12) (h0 : s.1 0 = nI n4) (hn4 : n4 ≤ 4096) (hD : Dist s n4) (sort : Int32) (num v : Int64) :
    (Good s (256 * sort + num.toInt32) rs (s.2.2.2 4) n4 v → M_isGood s sort num v = some (1, s)) ∧ (¬ Good s (256 * sort + num.toInt32) rs (s.2.2.2 4) n4 v → M_isGood s sort num v = some (0, s)) := by
  obtain ⟨r, h1, h2⟩ := M_find_spec h5 hrs h0 hn4 sort num
  unfold M_isGood
  rw [h1]
  dsimp only [Option.bind_some, lt1]
  by_cases hv : lg_cmp v 0 ≤ 0
  · rw [if_pos hv]
    refine ⟨fun ⟨j, hj, e, _⟩ => ?_, fun _ => rfl⟩
    exfalso
    have := (lg_cmp_le _ _).mp hv
    rw [e] at this
    have := (pk_lLE (a := j + 1) (b := 0) (by omega) (by omega)).mp this
    omega
  · rw [if_neg hv]
    rcases h2 with ⟨rfl, h2⟩ | ⟨j, hj, rfl, h2, h3⟩
    · refine ⟨fun ⟨j, hj, e, hm⟩ => absurd hm (h2 j hj), fun _ => ?_⟩
      rw [if_neg]
      intro q
      have e := lg_eq.mp q
      apply hv
      rw [← e]
      decide
    · have hj1 : (nI (j + 1)).toInt64 = lN (j + 1) := nI_l (by omega)
      rw [hj1]
      refine ⟨fun ⟨j', hj', e, hm⟩ => ?_, fun hg => ?_⟩
      · have : j' = j := hD _ _ _ j' j hrs hj' hj hm h2
        subst this
        rw [if_pos (lg_eq.mpr e.symm)]
      · rw [if_neg]
        intro q
        exact hg ⟨j, hj, (lg_eq.mp q).symm, h2⟩
