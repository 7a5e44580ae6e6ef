/-! the class's seals: looked at, made; a list that grows -/
def alC (n c : Nat) : Nat := if n = c then al_cap c else c
section XSEAL
variable {E : Ev} {A : Nat → Prop} {h h0 h' : Hp} {y : Nat → Nat → Nat} {s : MS} {n cp : Nat → Nat} {so nu : Nat} {l : List Int64}
theorem alS.no (R : RXo E A h y s n cp) {j0 k j : Nat} (hj : j0 ≤ 18) (h12 : 12 ≤ j0) (hl : lyv n cp k j) (h1 : ¬ (k = 0 ∧ j = j0)) (h2 : ¬ (k = 15 ∧ j = j0)) : ¬ alS (y 0 j0) (y 15 j0) (cp j0) (y k j) := by
  rintro (e | ⟨e, e2⟩)
  · exact R.1.ne hl (ly0 hj) (by omega) e
  · exact R.1.ne hl (ly15 h12 hj e2) (by omega) e
theorem alS.pay (R : RXo E A h y s n cp) {j0 : Nat} (hj : j0 ≤ 18) (h12 : 12 ≤ j0) : ∀ a fs, xh_at h a (.inr (6, fs)) → ¬ alS (y 0 j0) (y 15 j0) (cp j0) a := by
  intro a fs hp
  have no : ∀ {k j}, lyv n cp k j → a ≠ y k j := fun hl e => by
    obtain ⟨e1, q1, q2⟩ := R.ly hl
    rw [e] at hp
    exact q2 fs (q1.2.symm.trans hp.2)
  rintro (e | ⟨e, e2⟩)
  · exact no (ly0 hj) e
  · exact no (ly15 h12 hj e2) e
theorem RXo.lst (R : RXo E A h y s n cp) {j0 : Nat} (hj : j0 ≤ 18) (h12 : 12 ≤ j0) : ∃ m el, AL E h (y 0 j0) (y 15 j0) m (cp j0) el := by
  obtain ⟨l0, l1, l2, l3, l4, l5, l6, l7⟩ := R.2.2.2.1
  match j0, hj, h12 with
  | 12, _, _ => exact ⟨_, _, l0⟩
  | 13, _, _ => exact ⟨_, _, l1⟩
  | 14, _, _ => exact ⟨_, _, l2⟩
  | 15, _, _ => exact ⟨_, _, l3⟩
  | 16, _, _ => exact ⟨_, _, l4⟩
  | 17, _, _ => exact ⟨_, _, l5⟩
  | 18, _, _ => exact ⟨_, _, l6⟩
  | k + 19, hj, _ => omega
/-- behind a list's add: what isn't that list's is as it was -/
theorem RXo.app (R : RXo E A h y s n cp) {j0 : Nat} (hj : j0 ≤ 18) (h12 : 12 ≤ j0) (g : xg (alS (y 0 j0) (y 15 j0) (cp j0)) h h') :
    RXf E h' y s n ∧ (∀ j m el, 12 ≤ j → j ≤ 18 → j ≠ j0 → AL E h (y 0 j) (y 15 j) m (cp j) el → AL E h' (y 0 j) (y 15 j) m (cp j) el) ∧ (∀ t, t < n 1 → ∀ m el, AL E h (y 7 t) (y 8 t) m (cp (20 + t)) el → AL E h' (y 7 t) (y 8 t) m (cp (20 + t)) el) ∧ RXm E h' y s n ∧ RXc h' y s n ∧ RXt h' y s n ∧ RXs E h' y s n ∧ RXp h' y s n ∧ xg A h h' ∧ ∀ a, xo_at h a → xo_at h' a := by
  obtain ⟨Ra, Rn, Rf, Rl, Rm, Rc, Rt, Rs, Rp⟩ := id R
  have hP := alS.pay R hj h12
  have ho : ∀ a, xo_at h a → xo_at h' a := by
    intro a ⟨ci, fs, q1, q2⟩
    refine ⟨ci, fs, q1, g.at q2 ?_⟩
    obtain ⟨m, el, md, a1, a2, a3⟩ := R.lst hj h12
    rintro (rfl | ⟨rfl, e2⟩)
    · have := q2.2.symm.trans a1.2
      injection this with z; injection z with z; omega
    · rcases a3 with ⟨z, _⟩ | ⟨_, f, a4, _⟩
      · exact e2 z
      · have := q2.2.symm.trans a4.2
        cases this
  have k0 : ∀ {j e}, j ≤ 11 → xh_at h (y 0 j) e → xh_at h' (y 0 j) e := fun hj' hx => g.at hx (alS.no R hj h12 (ly0 (by omega)) (by omega) (by omega))
  refine ⟨?_, fun j m el q1 q2 q3 q4 => q4.g2 g ho (alS.no R hj h12 (ly0 q2) (by omega) (by omega)) (fun hc => alS.no R hj h12 (ly15 q1 q2 hc) (by omega) (by omega)), fun t ht m el q4 => q4.g2 g ho (alS.no R hj h12 (ly7 ht) (by omega) (by omega)) (fun hc => alS.no R hj h12 (ly8 ht hc) (by omega) (by omega)), Rm.g g (fun k hk => alS.no R hj h12 (ly1 hk) (by omega) (by omega)) (fun k hk => alS.no R hj h12 (ly2 hk) (by omega) (by omega)), Rc.g g (fun k hk => alS.no R hj h12 (ly3 hk) (by omega) (by omega)) (fun k hk => alS.no R hj h12 (ly9 hk) (by omega) (by omega)) hP, Rt.g g (fun k hk => alS.no R hj h12 (ly5 hk) (by omega) (by omega)) hP, Rs.g g (fun k hk => alS.no R hj h12 (ly10 hk) (by omega) (by omega)) (fun k hk => alS.no R hj h12 (ly11 hk) (by omega) (by omega)), Rp.g g hP, g.mono (fun x _ z => ?_), ho⟩
  · obtain ⟨f0, f1, f2, f3, ⟨fw, f4, f4'⟩, ⟨sz, so, nu, f5⟩, ⟨g6, f6⟩, ⟨x7, y7, z7, f7⟩, ⟨x8, y8, z8, f8⟩, ⟨g9, f9⟩, ⟨g10, f10⟩, ⟨g11, f11, f11'⟩⟩ := Rf
    exact ⟨k0 (by omega) f0, k0 (by omega) f1, k0 (by omega) f2, k0 (by omega) f3, ⟨fw, k0 (by omega) f4, f4'⟩, ⟨sz, so, nu, k0 (by omega) f5⟩, ⟨g6, k0 (by omega) f6⟩, ⟨x7, y7, z7, k0 (by omega) f7⟩, ⟨x8, y8, z8, k0 (by omega) f8⟩, ⟨g9, k0 (by omega) f9⟩, ⟨g10, k0 (by omega) f10⟩, ⟨g11, k0 (by omega) f11, f11'⟩⟩
  · rcases z with rfl | ⟨rfl, e2⟩
    · exact Ra.2.1 _ _ (ly0 hj)
    · exact Ra.2.1 _ _ (ly15 h12 hj e2)
def sR4 (s : MS) (g : Nat → Int64) : MS := (s.1, s.2.1, s.2.2.1, va_up s.2.2.2 4 g)
theorem s_th {j kc ks : Nat} {Q : Int32 → Hp → Prop} (S : RS E A h0 h y s n cp so nu l) (hso : so ≤ 2) (hnu : nu ≤ 255) (hlen : l.length ≤ 8) (hj : j < n 4) (q1 : mq s (nI (256 * so + nu)) l.length (fun i => l.getD i 0) j → Q 1 h) (q0 : ¬ mq s (nI (256 * so + nu)) l.length (fun i => l.getD i 0) j → Q 0 h) : m_X7_isTheirs E (y 0 4) (some (y 10 j)) h kc ks Q := by
  obtain ⟨R, g0, g, hr, hg⟩ := S
  exact s_theirs (s := sR4 s (fun i => l.getD i 0)) hr hso hnu hlen R.2.2.2.2.2.2.2.1 hg hj q1 q0
theorem s_isGood {v : Int64} {kc ks : Nat} {Q : Int32 → Hp → Prop} (S : RS E A h0 h y s n cp so nu l) (hso : so ≤ 2) (hnu : nu ≤ 255) (hlen : l.length ≤ 8) (q1 : Good s (nI (256 * so + nu)) l.length (fun i => l.getD i 0) (n 4) v → Q 1 h) (q0 : ¬ Good s (nI (256 * so + nu)) l.length (fun i => l.getD i 0) (n 4) v → Q 0 h) : m_X7_isGood E (y 0 4) v h kc ks Q := by
  obtain ⟨R, g0, g, hr, hg⟩ := id S
  have hn4 : n 4 ≤ 2048 := R.2.1.2.2.2.2.2.2.2.2.2.1.2.1
  have l4 := R.2.2.2.1.2.2.2.2.1
  refine ⟨fun q => q0 ?_, fun q => gR_of hr.1 rfl (nN_of (l4.isO (s_size l4 ⟨fun q2 => q0 ?_, fun q2 => ?_⟩)))⟩
  · rintro ⟨j, hj, rfl, _⟩
    have := (lg_cmp_lt _ _).mp q
    have := (pk_lLT (a := j + 1) (b := 1) (by omega) (by omega)).mp this
    omega
  · rintro ⟨j, hj, rfl, _⟩
    rw [nI_l (by omega)] at q2
    have := (lg_cmp_gt _ _).mp q2
    have := (pk_lLT (b := j + 1) (a := n 4) (by omega) (by omega)).mp this
    omega
  · rw [nI_l (by omega)] at q2
    have a1 : (lN 1) ≤ v := Int64.not_lt.mp (fun z => q ((lg_cmp_lt _ _).mpr z))
    have a2 : v ≤ lN (n 4) := Int64.not_lt.mp (fun z => q2 ((lg_cmp_gt _ _).mpr z))
    obtain ⟨m, hm, rfl⟩ : ∃ m : Nat, m < 2 ^ 63 ∧ v = lN m := pk_lOf (fun z => by
      have : lN 1 < 0 := Int64.lt_of_le_of_lt a1 z
      exact absurd this (by decide))
    have b1 := (pk_lLE (a := 1) (b := m) (by omega) (by omega)).mp a1
    have b2 := (pk_lLE (a := m) (b := n 4) (by omega) (by omega)).mp a2
    obtain ⟨j, rfl⟩ : ∃ j, m = j + 1 := ⟨m - 1, by omega⟩
    have e32 : (lN (j + 1)).toInt32 - 1 = nI j := by
      rw [show (lN (j + 1)).toInt32 = nI (j + 1) from by rw [← nI_l (by omega)]; exact Int32.toInt32_toInt64 _, nI_pred]
    rw [e32]
    obtain ⟨so', nu', len', f', s1, -⟩ := R.2.2.2.2.2.2.2.1 j (by omega)
    refine gR_of hr.1 rfl (nN_of (l4.isO (s_get l4 (by omega) (by omega) (nN_of (isO_of s1 (isO_of hr.1 (s_th S hso hnu hlen (by omega) (fun z => ⟨fun q => absurd q (by decide), fun _ => q1 ⟨j, by omega, rfl, z⟩⟩) (fun z => ⟨fun _ => q0 ?_, fun q => absurd rfl q⟩))))))))
    rintro ⟨j', hj', e, hm'⟩
    have := (pk_lEQ (a := j + 1) (b := j' + 1) (by omega) (by omega)).mp e
    have : j' = j := by omega
    subst this
    exact z hm'
theorem s_sealLoop {kc ks : Nat} {Q : Int64 → Hp → Prop} (S : RS E A h0 h y s n cp so nu l) (hso : so ≤ 2) (hnu : nu ≤ 255) (hlen : l.length ≤ 8) :
    ∀ (d i : Nat), n 4 - i = d → i ≤ n 4 → (∀ j, i ≤ j → j < n 4 → mq s (nI (256 * so + nu)) l.length (fun i => l.getD i 0) j → (∀ k, i ≤ k → k < j → ¬ mq s (nI (256 * so + nu)) l.length (fun i => l.getD i 0) k) → Q (nI (j + 1)).toInt64 h) → ((∀ j, i ≤ j → j < n 4 → ¬ mq s (nI (256 * so + nu)) l.length (fun i => l.getD i 0) j) → m_X7_seal_L2 1 E (y 0 4) (nI (n 4)) h kc ks Q) → m_X7_seal_L2 (d + 1) E (y 0 4) (nI i) h kc ks Q := by
  obtain ⟨R, g0, g, hr, hg⟩ := id S
  have hn4 : n 4 ≤ 2048 := R.2.1.2.2.2.2.2.2.2.2.2.1.2.1
  have l4 := R.2.2.2.1.2.2.2.2.1
  intro d
  induction d with
  | zero =>
    intro i hd hi q1 q0
    have : i = n 4 := by omega
    subst this
    exact q0 (fun j h1 h2 => by omega)
  | succ d ih =>
    intro i hd hi q1 q0
    refine gR_of hr.1 rfl (nN_of (l4.isO (s_size l4 ⟨fun q => absurd q (nI_ge (by omega) (by omega)), fun _ => ?_⟩)))
    obtain ⟨so', nu', len', f', s1, -⟩ := R.2.2.2.2.2.2.2.1 i (by omega)
    refine gR_of hr.1 rfl (nN_of (l4.isO (s_get l4 (by omega) (by omega) (nN_of (isO_of s1 (isO_of hr.1 (s_th S hso hnu hlen (by omega) (fun z => ⟨fun q => absurd q (by decide), fun _ => ?_⟩) (fun z => ⟨fun _ => ?_, fun q => absurd rfl q⟩))))))))
    · rw [nI_1]
      exact q1 i (Nat.le_refl _) (by omega) z (fun k h1 h2 => by omega)
    · rw [nI_1]
      refine ih (i + 1) (by omega) (by omega) (fun j h1 h2 h3 h4 => q1 j (by omega) h2 h3 (fun k h5 h6 => ?_)) (fun q => q0 (fun j h1 h2 => ?_))
      · by_cases e : k = i
        · subst e; exact z
        · exact h4 k (by omega) h6
      · by_cases e : j = i
        · subst e; exact z
        · exact q j (by omega) h2
end XSEAL
