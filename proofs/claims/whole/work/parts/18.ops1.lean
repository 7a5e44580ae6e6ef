theorem gI_of {h : Hp} {a ci k : Nat} {fs : List Value} {x : Int32} {P : Int32 → Prop} (hx : xh_at h a (.inr (ci, fs))) (e : fs[k]? = some (.int x)) (p : P x) : gI h a ci k P := ⟨fs, x, hx, e, p⟩
theorem gL_of {h : Hp} {a ci k : Nat} {fs : List Value} {x : Int64} {P : Int64 → Prop} (hx : xh_at h a (.inr (ci, fs))) (e : fs[k]? = some (.long x)) (p : P x) : gL h a ci k P := ⟨fs, x, hx, e, p⟩
theorem gR_of {h : Hp} {a ci k w : Nat} {fs : List Value} {P : Option Nat → Prop} (hx : xh_at h a (.inr (ci, fs))) (e : fs[k]? = some (.ref w)) (p : P (some w)) : gR h a ci k P := ⟨fs, some w, hx, e, p⟩
theorem nN_of {a : Nat} {P : Nat → Prop} (p : P a) : nN (some a) P := ⟨a, rfl, p⟩
theorem isO_of {h : Hp} {a ci : Nat} {fs : List Value} {P : Prop} (hx : xh_at h a (.inr (ci, fs))) (p : P) : isO h a ci P := ⟨⟨_, hx⟩, p⟩
theorem aI_of {E : Ev} {h : Hp} {t a n j : Nat} {f : Nat → Int32} {i x : Int32} {P : Int32 → Prop} (hx : xh_at h a (.inl (E.1 t, n, .inl f))) (hi : i = nI j) (hj : j < n) (hn : n < 2 ^ 31) (hf : f j = x) (p : P x) : aI E h t a i P := by
  subst hi
  exact ⟨n, f, x, hx, vp_in_nI hj hn, by rw [nI_clamp (by omega)]; exact hf, p⟩
/-- an index: below 0, at least n, or one of n -/
theorem ix3 (z : Int32) {n : Nat} (hn : n < 2 ^ 31) {P : Prop} (a : z < 0 → P) (b : ¬ z < 0 → nI n ≤ z → P) (c : ∀ j, j < n → z = nI j → P) : P := by
  rcases pk_ix z hn with q | q | ⟨j, hj, q⟩
  · exact a q
  · by_cases z0 : z < 0
    · exact a z0
    · exact b z0 q
  · exact c j hj q
theorem s_isCard {E : Ev} {A : Nat → Prop} {h : Hp} {y : Nat → Nat → Nat} {s : MS} {n cp : Nat → Nat} {z : Int32} {kc ks : Nat} {Q : Int32 → Hp → Prop} (R : RXo E A h y s n cp) (h0 : (z < 0 ∨ nI (n 0) ≤ z) → Q 0 h) (h1 : ∀ j, j < n 0 → z = nI j → Q 1 h) : m_X10_isCard E (y 0 1) z h kc ks Q := by
  have hn := R.2.1.1.2
  refine ⟨fun q => h0 (Or.inl q), fun q => ?_⟩
  refine gR_of R.2.2.1.2.1 rfl (nN_of (R.2.2.2.1.1.isO (s_size R.2.2.2.1.1 ?_)))
  refine ⟨fun q2 => h0 (Or.inr q2), fun q2 => ?_⟩
  exact ix3 z (n := n 0) (by omega) (fun z => absurd z q) (fun _ z => absurd z q2) h1
theorem s_isTerminal {E : Ev} {A : Nat → Prop} {h : Hp} {y : Nat → Nat → Nat} {s : MS} {n cp : Nat → Nat} {z : Int32} {kc ks : Nat} {Q : Int32 → Hp → Prop} (R : RXo E A h y s n cp) (h0 : (z < 0 ∨ nI (n 1) ≤ z) → Q 0 h) (h1 : ∀ j, j < n 1 → z = nI j → Q 1 h) : m_X10_isTerminal E (y 0 1) z h kc ks Q := by
  have hn := R.2.1.2.1.2
  refine ⟨fun q => h0 (Or.inl q), fun q => ?_⟩
  refine gR_of R.2.2.1.2.1 rfl (nN_of (R.2.2.2.1.2.1.isO (s_size R.2.2.2.1.2.1 ?_)))
  refine ⟨fun q2 => h0 (Or.inr q2), fun q2 => ?_⟩
  exact ix3 z (n := n 1) (by omega) (fun z => absurd z q) (fun _ z => absurd z q2) h1
theorem SX_count_ok {WF : TWF} : SX_count RX WF := by
  intro E A h x s s' i kc ks r z R _ hi hm Q hQ
  obtain ⟨y, n, cp, rfl, R, hb⟩ := id R
  have hQ' : ∀ r0, some (r0, s) = some (r, s') → Q r0 h := by
    intro r0 e
    cases e
    exact hQ h ⟨y, n, cp, rfl, R, hb.next⟩ xg.rf
  obtain ⟨Ra, Rn, Rf, Rl, -⟩ := id R
  obtain ⟨f0, f1, f2, f3, -, ⟨_, _, _, f5⟩, -⟩ := Rf
  unfold M_count at hm
  refine ⟨fun q => ?_, fun q => ?_⟩
  · rw [if_pos q, Rn.1.1] at hm
    exact gR_of f0 rfl (nN_of (gR_of f1 rfl (nN_of (Rl.1.isO (s_size Rl.1 (hQ' _ hm))))))
  rw [if_neg q] at hm
  refine ⟨fun q => ?_, fun q => ?_⟩
  · rw [if_pos q, Rn.2.1.1] at hm
    exact gR_of f0 rfl (nN_of (gR_of f1 rfl (nN_of (Rl.2.1.isO (s_size Rl.2.1 (hQ' _ hm))))))
  rw [if_neg q] at hm
  refine ⟨fun q => ?_, fun q => ?_⟩
  · rw [if_pos q, Rn.2.2.1.1] at hm
    exact gR_of f0 rfl (nN_of (gR_of f1 rfl (nN_of (gI_of f3 rfl (hQ' _ hm)))))
  rw [if_neg q] at hm
  refine ⟨fun q => ?_, fun q => ?_⟩
  · rw [if_pos q, Rn.2.2.2.1] at hm
    exact gR_of f0 rfl (nN_of (gR_of f2 rfl (nN_of (Rl.2.2.2.2.2.2.1.isO (s_size Rl.2.2.2.2.2.2.1 (hQ' _ hm))))))
  rw [if_neg q] at hm
  refine ⟨fun q => ?_, fun q => ?_⟩
  · rw [if_pos q, Rn.2.2.2.2.1] at hm
    exact gR_of f0 rfl (nN_of (gR_of f1 rfl (nN_of (gR_of f5 rfl (nN_of (Rl.2.2.2.2.1.isO (s_size Rl.2.2.2.2.1 (hQ' _ hm))))))))
  rw [if_neg q] at hm
  refine ⟨fun q => ?_, fun q => ?_⟩
  · rw [if_pos q, Rn.2.2.2.2.2.1] at hm
    exact gR_of f0 rfl (nN_of (gR_of f1 rfl (nN_of (Rl.2.2.1.isO (s_size Rl.2.2.1 (hQ' _ hm))))))
  rw [if_neg q] at hm
  exact hQ' _ hm
theorem SX_outcome_ok {WF : TWF} : SX_outcome RX WF := by
  intro E A h x s s' i kc ks r z R _ hi hm Q hQ
  obtain ⟨y, n, cp, rfl, R, hb⟩ := id R
  have hQ' : ∀ r0, some (r0, s) = some (r, s') → Q r0 h := by
    intro r0 e
    cases e
    exact hQ h ⟨y, n, cp, rfl, R, hb.next⟩ xg.rf
  obtain ⟨Ra, Rn, Rf, Rl, Rm, Rc, Rt, Rs, Rp⟩ := id R
  obtain ⟨f0, f1, -⟩ := Rf
  unfold M_outcome at hm
  rw [Rn.2.1.1] at hm
  refine gR_of f0 rfl (nN_of (isO_of f1 (s_isTerminal R (fun q => ?_) (fun j hj q => ?_))))
  · refine ⟨fun _ => ?_, fun q => absurd rfl q⟩
    rcases q with q | q
    · rw [if_pos q] at hm; exact hQ' _ hm
    · by_cases z0 : z < 0
      · rw [if_pos z0] at hm; exact hQ' _ hm
      · rw [if_neg z0, if_neg (Int32.not_lt.mpr q)] at hm; exact hQ' _ hm
  · subst q
    refine ⟨fun q => absurd q (by decide), fun _ => ?_⟩
    have hn := Rn.2.1.2
    rw [if_neg (nI_pos (by omega)), if_pos (nI_lt hj (by omega)), if_neg (nI_in (N := 8) (by omega) (by omega)), nI_clamp (by omega)] at hm
    obtain ⟨wd, t1, -⟩ := Rt j hj
    refine gR_of f0 rfl (nN_of (gR_of f1 rfl (nN_of (Rl.2.1.isO (s_get Rl.2.1 (by omega) hj (nN_of (isO_of t1 (gI_of t1 rfl (hQ' _ hm)))))))))
