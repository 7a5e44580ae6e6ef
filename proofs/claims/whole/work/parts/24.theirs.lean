/-! the class's seals: a row in the making, and whether a seal is its own -/
def SRow (E : Ev) (h : Hp) (y : Nat → Nat → Nat) (so nu len : Nat) (g : Nat → Int64) : Prop :=
  xh_at h (y 0 4) (.inr (8, [.ref (y 0 16), .ref (y 0 11), .int (nI len), .int (nI so), .int (nI nu)])) ∧ xh_at h (y 0 11) (.inl (E.1 1, 8, .inr (.inl g)))
theorem aL_of {E : Ev} {h : Hp} {t a m j : Nat} {f : Nat → Int64} {i : Int32} {x : Int64} {P : Int64 → Prop} (hx : xh_at h a (.inl (E.1 t, m, .inr (.inl f)))) (hi : i = nI j) (hj : j < m) (hm : m < 2 ^ 31) (hf : f j = x) (p : P x) : aL E h t a i P := by
  subst hi
  exact ⟨m, f, x, hx, vp_in_nI hj hm, by rw [nI_clamp (by omega)]; exact hf, p⟩
theorem sL_of {E : Ev} {h : Hp} {t a m j : Nat} {f : Nat → Int64} {i : Int32} {x : Int64} {P : Hp → Prop} (hx : xh_at h a (.inl (E.1 t, m, .inr (.inl f)))) (hi : i = nI j) (hj : j < m) (hm : m < 2 ^ 31) (p : P (xh_set h a (.inl (E.1 t, m, .inr (.inl (vp_updL f j x)))))) : sL E h t a i x P := by
  subst hi
  exact ⟨m, f, hx, vp_in_nI hj hm, _, rfl, by rw [nI_clamp (by omega)]; exact p⟩
theorem s_theirsL {E : Ev} {h : Hp} {y : Nat → Nat → Nat} {so nu len a b : Nat} {g f : Nat → Int64} {kc ks : Nat} {vv : List Value} {Q : Int32 → Hp → Prop} (R : SRow E h y so nu len g) (hlen : len ≤ 8) (ha : xh_at h a (.inr (7, vv))) (hv : vv[2]? = some (.ref b)) (hb : xh_at h b (.inl (E.1 1, len, .inr (.inl f)))) :
    ∀ (d i : Nat), len - i = d → i ≤ len → ((∀ k, i ≤ k → k < len → f k = g k) → Q 1 h) → ((¬ ∀ k, i ≤ k → k < len → f k = g k) → Q 0 h) → m_X7_isTheirs_L38 (d + 1) E (y 0 4) (some a) (nI i) h kc ks Q := by
  intro d
  induction d with
  | zero =>
    intro i hd hi q1 q0
    refine gI_of R.1 rfl ⟨fun _ => q1 (fun k h1 h2 => by omega), fun q => absurd (nI_le (a := len) (b := i) (by omega) (by omega)) q⟩
  | succ d ih =>
    intro i hd hi q1 q0
    refine gI_of R.1 rfl ⟨fun q => absurd q (nI_ge (by omega) (by omega)), fun _ => ?_⟩
    refine nN_of (gR_of ha hv (nN_of (aL_of hb rfl (show i < len by omega) (by omega) rfl (gR_of R.1 rfl (nN_of (aL_of R.2 rfl (show i < 8 by omega) (by omega) rfl ⟨fun q => ?_, fun q => ?_⟩))))))
    · rw [nI_1]
      have e := lg_eq.mp q
      refine ih (i + 1) (by omega) (by omega) (fun z => q1 (fun k h1 h2 => ?_)) (fun z => q0 (fun z2 => z (fun k h1 h2 => z2 k (by omega) h2)))
      by_cases w : k = i
      · subst w; exact e
      · exact z k (by omega) h2
    · exact q0 (fun z => q (lg_eq.mpr (z i (Nat.le_refl _) (by omega))))
theorem s_theirs {E : Ev} {h : Hp} {y : Nat → Nat → Nat} {s : MS} {n : Nat → Nat} {so nu len j : Nat} {g : Nat → Int64} {kc ks : Nat} {Q : Int32 → Hp → Prop} (R : SRow E h y so nu len g) (hso : so ≤ 2) (hnu : nu ≤ 255) (hlen : len ≤ 8) (Z : RXs E h y s n) (hg : ∀ i, i < len → g i = s.2.2.2 4 i) (hj : j < n 4)
    (q1 : mt s (nI (256 * so + nu)) len j → Q 1 h) (q0 : ¬ mt s (nI (256 * so + nu)) len j → Q 0 h) : m_X7_isTheirs E (y 0 4) (some (y 10 j)) h kc ks Q := by
  obtain ⟨so', nu', len', f, s1, s2, s3, s4, s5, s6, s7, s8⟩ := Z j hj
  refine nN_of (gI_of s1 rfl (gI_of R.1 rfl ⟨fun e1 => ?_, fun e1 => ?_⟩))
  · have e1 := (nI_eq (by omega) (by omega)).mp e1
    refine gI_of s1 rfl (gI_of R.1 rfl ⟨fun e2 => ?_, fun e2 => ?_⟩)
    · have e2 := (nI_eq (by omega) (by omega)).mp e2
      refine gR_of s1 rfl (nN_of ⟨nI len', Or.inl ⟨1, _, _, rfl, s2, rfl⟩, gI_of R.1 rfl ⟨fun e3 => ?_, fun e3 => ?_⟩⟩)
      · have e3 := (nI_eq (by omega) (by omega)).mp e3
        subst e1; subst e2; subst e3
        refine ⟨len' + 1, ?_⟩
        refine s_theirsL R hlen s1 rfl s2 len' 0 (by omega) (by omega) (fun z => q1 ⟨s3, s4, fun i hi => ?_⟩) (fun z => q0 (fun m => z (fun k _ hk => ?_)))
        · rw [← s8 i hi, ← hg i hi]; exact z i (Nat.zero_le _) hi
        · rw [s8 k hk, hg k hk]; exact m.2.2 k hk
      · exact q0 (fun m => e3 (by rw [← s4, m.2.1]))
    · exact q0 (fun m => e2 (by
        have := m.1
        rw [s3] at this
        have := (nI_eq (by omega) (by omega)).mp this
        have : nu' = nu := by omega
        rw [this]))
  · exact q0 (fun m => e1 (by
      have := m.1
      rw [s3] at this
      have := (nI_eq (by omega) (by omega)).mp this
      have : so' = so := by omega
      rw [this]))
