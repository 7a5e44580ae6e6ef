theorem s_wget {E : Ev} {A : Nat → Prop} {h : Hp} {y : Nat → Nat → Nat} {s : MS} {n cp : Nat → Nat} {z : Int32} {kc ks : Nat} {Q : Option Nat → Hp → Prop} (R : RXo E A h y s n cp) (h0 : (z < 0 ∨ (¬ z < 0 ∧ nI (n 2) ≤ z)) → Q none h) (h1 : ∀ j, j < n 2 → z = nI j → Q (some (y 1 j)) h) : m_X9_get E (y 0 3) z h kc ks Q := by
  have hn := R.2.1.2.2.1.2
  obtain ⟨-, -, -, f3, ⟨fw, f4, f4'⟩, -⟩ := R.2.2.1
  refine ⟨fun q => h0 (Or.inl q), fun q => ?_⟩
  refine gI_of f3 rfl ⟨fun q2 => h0 (Or.inr ⟨q, q2⟩), fun q2 => ?_⟩
  refine gR_of f3 rfl (nN_of ?_)
  refine ix3 z (n := n 2) (by omega) (fun z => absurd z q) (fun _ z => absurd z q2) (fun j hj e => ?_)
  subst e
  refine ⟨60, fw, some (y 1 j), f4, vp_in_nI (by omega) (by omega), ?_, h1 j hj rfl⟩
  rw [nI_clamp (by omega), f4' j (by omega), if_pos (by omega)]
theorem SX_told_ok {WF : TWF} : SX_told RX WF := by
  intro E A h x s s' i kc ks r z w R _ hi hm Q hQ
  obtain ⟨y, n, cp, rfl, R, hb⟩ := id R
  have hQ' : ∀ r0, some (r0, s) = some (r, s') → Q r0 h := by
    intro r0 e
    cases e
    exact hQ h ⟨y, n, cp, rfl, R, hb.next⟩ xg.rf
  obtain ⟨Ra, Rn, Rf, Rl, Rm, Rc, Rt, Rs, Rp⟩ := id R
  obtain ⟨f0, f1, f2, f3, f4, -⟩ := id Rf
  have hn := Rn.1.2
  unfold M_told at hm
  rw [Rn.1.1] at hm
  refine gR_of f0 rfl (nN_of (isO_of f1 (s_isCard R (fun q => ?_) (fun j hj q => ?_))))
  · refine ⟨fun _ => ?_, fun q => absurd rfl q⟩
    by_cases z0 : z < 0
    · rw [if_pos z0] at hm; exact hQ' _ hm
    · rw [if_neg z0, if_neg (Int32.not_lt.mpr (q.resolve_left z0))] at hm; exact hQ' _ hm
  · subst q
    refine ⟨fun q => absurd q (by decide), fun _ => ?_⟩
    rw [if_neg (nI_pos (by omega)), if_pos (nI_lt hj (by omega))] at hm
    simp only [if_neg (nI_in (c := j) (N := 16) (by omega) (by omega))] at hm
    simp only [nI_clamp (show j < 2 ^ 31 by omega)] at hm
    obtain ⟨c1, -⟩ := Rc j hj
    refine gR_of f0 rfl (nN_of (gR_of f1 rfl (nN_of (Rl.1.isO (s_get Rl.1 (by omega) hj (nN_of (isO_of c1 ?_)))))))
    refine ⟨fun q => ?_, fun q => ?_⟩
    · rw [if_pos q] at hm; exact gI_of c1 rfl (hQ' _ hm)
    rw [if_neg q] at hm
    refine ⟨fun q => ?_, fun q => ?_⟩
    · rw [if_pos q] at hm; exact gI_of c1 rfl (hQ' _ hm)
    rw [if_neg q] at hm
    refine ⟨fun q => ?_, fun q => ?_⟩
    · rw [if_pos q] at hm; exact gI_of c1 rfl (hQ' _ hm)
    rw [if_neg q] at hm
    refine ⟨fun q => ?_, fun q => ?_⟩
    · rw [if_pos q] at hm; exact gI_of c1 rfl (hQ' _ hm)
    rw [if_neg q] at hm
    exact hQ' _ hm
theorem SX_account_ok {WF : TWF} : SX_account RX WF := by
  intro E A h x s s' i kc ks r z R _ hi hm Q hQ
  obtain ⟨y, n, cp, rfl, R, hb⟩ := id R
  have hQ' : ∀ r0, some (r0, s) = some (r, s') → Q r0 h := by
    intro r0 e
    cases e
    exact hQ h ⟨y, n, cp, rfl, R, hb.next⟩ xg.rf
  obtain ⟨Ra, Rn, Rf, Rl, Rm, Rc, Rt, Rs, Rp⟩ := id R
  obtain ⟨f0, f1, f2, f3, f4, -⟩ := id Rf
  have hn := Rn.1.2
  unfold M_account at hm
  rw [Rn.1.1] at hm
  refine ⟨fun q => ?_, fun q => ?_⟩
  · rw [if_pos q] at hm; exact hQ' _ hm
  rw [if_neg q] at hm
  have l5 := Rl.2.2.2.2.2.1
  refine gR_of f0 rfl (nN_of (gR_of f2 rfl (nN_of (l5.isO (s_size l5 ⟨fun q2 => ?_, fun q2 => ?_⟩)))))
  · rw [if_neg (Int32.not_lt.mpr q2)] at hm; exact hQ' _ hm
  · refine ix3 z (n := n 0) (by omega) (fun z => absurd z q) (fun _ z => absurd z q2) (fun j hj e => ?_)
    subst e
    rw [if_pos (nI_lt hj (by omega)), if_neg (nI_in (c := j) (N := 16) (by omega) (by omega)), nI_clamp (show j < 2 ^ 31 by omega)] at hm
    obtain ⟨-, -, c3⟩ := Rc j hj
    exact gR_of f0 rfl (nN_of (gR_of f2 rfl (nN_of (l5.isO (s_get l5 (by omega) hj (nN_of (isO_of c3 (gL_of c3 rfl (hQ' _ hm)))))))))
theorem ix7 {w : Int32} (h0 : ¬ w = 0) (h1 : ¬ w = 1) (h2 : ¬ w = 2) (h3 : ¬ w = 3) (h4 : ¬ w = 4) (h5 : ¬ w = 5) (h6 : ¬ w = 6) (p : ¬ w < 0) : ¬ w ≤ 6 := by
  intro q
  obtain ⟨j, hj, rfl⟩ := nI_of2 (M := 6) (n := 6) (by decide) p q
  match j, hj with
  | 0, _ => exact h0 rfl
  | 1, _ => exact h1 rfl
  | 2, _ => exact h2 rfl
  | 3, _ => exact h3 rfl
  | 4, _ => exact h4 rfl
  | 5, _ => exact h5 rfl
  | 6, _ => exact h6 rfl
  | k + 7, hj => omega
theorem SX_debit_ok {WF : TWF} : SX_debit RX WF := by
  intro E A h x s s' i kc ks r z w R _ hi hm Q hQ
  obtain ⟨y, n, cp, rfl, R, hb⟩ := id R
  have hQ' : ∀ r0, some (r0, s) = some (r, s') → Q r0 h := by
    intro r0 e
    cases e
    exact hQ h ⟨y, n, cp, rfl, R, hb.next⟩ xg.rf
  obtain ⟨Ra, Rn, Rf, Rl, Rm, Rc, Rt, Rs, Rp⟩ := id R
  obtain ⟨f0, f1, f2, f3, f4, -⟩ := id Rf
  have hn := Rn.2.2.2.2.2.2.2.2.2.1.1
  unfold M_debit_II at hm
  rw [Rn.2.2.2.1] at hm
  refine ⟨fun q => ?_, fun q => ?_⟩
  · rw [if_pos q] at hm; exact hQ' _ hm
  rw [if_neg q] at hm
  have l6 := Rl.2.2.2.2.2.2.1
  refine gR_of f0 rfl (nN_of (gR_of f2 rfl (nN_of (l6.isO (s_size l6 ⟨fun q2 => ?_, fun q2 => ?_⟩)))))
  · refine ix3 z (n := n 3) (by omega) (fun z => absurd z q) (fun _ z => absurd q2 (Int32.not_lt.mpr z)) (fun j hj e => ?_)
    subst e
    rw [if_neg (nI_ge hj (by omega))] at hm
    obtain ⟨c, k, am, un, t, w9, a, sl, d1, e0, e1, e2, e3, e4, e5, e6⟩ := Rp.2.2.1 j hj
    have e0 : s.2.2.2 62 (7 * j + 0) = c.toInt64 := e0
    have i0 : 7 * nI j + (0 : Int32) = nI (7 * j + 0) := by rw [show (7 : Int32) = nI 7 from rfl, show (0 : Int32) = nI 0 from rfl, pk_mul, nI_add]
    have i1 : 7 * nI j + (1 : Int32) = nI (7 * j + 1) := by rw [show (7 : Int32) = nI 7 from rfl, show (1 : Int32) = nI 1 from rfl, pk_mul, nI_add]
    have i2 : 7 * nI j + (2 : Int32) = nI (7 * j + 2) := by rw [show (7 : Int32) = nI 7 from rfl, show (2 : Int32) = nI 2 from rfl, pk_mul, nI_add]
    have i3 : 7 * nI j + (3 : Int32) = nI (7 * j + 3) := by rw [show (7 : Int32) = nI 7 from rfl, show (3 : Int32) = nI 3 from rfl, pk_mul, nI_add]
    have i4 : 7 * nI j + (4 : Int32) = nI (7 * j + 4) := by rw [show (7 : Int32) = nI 7 from rfl, show (4 : Int32) = nI 4 from rfl, pk_mul, nI_add]
    have i5 : 7 * nI j + (5 : Int32) = nI (7 * j + 5) := by rw [show (7 : Int32) = nI 7 from rfl, show (5 : Int32) = nI 5 from rfl, pk_mul, nI_add]
    have i6 : 7 * nI j + (6 : Int32) = nI (7 * j + 6) := by rw [show (7 : Int32) = nI 7 from rfl, show (6 : Int32) = nI 6 from rfl, pk_mul, nI_add]
    refine gR_of f0 rfl (nN_of (gR_of f2 rfl (nN_of (l6.isO (s_get l6 (by omega) hj (nN_of (isO_of d1 ?_)))))))
    refine ⟨fun q => ?_, fun q => ?_⟩
    · subst q
      rw [if_neg (show ¬ (0 : Int32) < 0 by decide), if_pos (show (0 : Int32) ≤ 6 by decide), i0, if_neg (nI_in (by omega) (by omega)), nI_clamp (by omega), e0] at hm
      exact gI_of d1 rfl (hQ' _ hm)
    refine ⟨fun q => ?_, fun q => ?_⟩
    · subst q
      rw [if_neg (show ¬ (1 : Int32) < 0 by decide), if_pos (show (1 : Int32) ≤ 6 by decide), i1, if_neg (nI_in (by omega) (by omega)), nI_clamp (by omega), e1] at hm
      exact gI_of d1 rfl (hQ' _ hm)
    refine ⟨fun q => ?_, fun q => ?_⟩
    · subst q
      rw [if_neg (show ¬ (2 : Int32) < 0 by decide), if_pos (show (2 : Int32) ≤ 6 by decide), i2, if_neg (nI_in (by omega) (by omega)), nI_clamp (by omega), e2] at hm
      exact gL_of d1 rfl (hQ' _ hm)
    refine ⟨fun q => ?_, fun q => ?_⟩
    · subst q
      rw [if_neg (show ¬ (3 : Int32) < 0 by decide), if_pos (show (3 : Int32) ≤ 6 by decide), i3, if_neg (nI_in (by omega) (by omega)), nI_clamp (by omega), e3] at hm
      exact gL_of d1 rfl (hQ' _ hm)
    refine ⟨fun q => ?_, fun q => ?_⟩
    · subst q
      rw [if_neg (show ¬ (4 : Int32) < 0 by decide), if_pos (show (4 : Int32) ≤ 6 by decide), i4, if_neg (nI_in (by omega) (by omega)), nI_clamp (by omega), e4] at hm
      exact gI_of d1 rfl (hQ' _ hm)
    refine ⟨fun q => ?_, fun q => ?_⟩
    · subst q
      rw [if_neg (show ¬ (5 : Int32) < 0 by decide), if_pos (show (5 : Int32) ≤ 6 by decide), i5, if_neg (nI_in (by omega) (by omega)), nI_clamp (by omega), e5] at hm
      exact gI_of d1 rfl (hQ' _ hm)
    refine ⟨fun q => ?_, fun q => ?_⟩
    · subst q
      rw [if_neg (show ¬ (6 : Int32) < 0 by decide), if_pos (show (6 : Int32) ≤ 6 by decide), i6, if_neg (nI_in (by omega) (by omega)), nI_clamp (by omega), e6] at hm
      exact gI_of d1 rfl (hQ' _ hm)
    by_cases w0 : w < 0
    · rw [if_pos w0] at hm; exact hQ' _ hm
    · rw [if_neg w0, if_neg (ix7 (by assumption) (by assumption) (by assumption) (by assumption) (by assumption) (by assumption) (by assumption) w0)] at hm; exact hQ' _ hm
  · rw [if_pos (Int32.not_lt.mp q2)] at hm; exact hQ' _ hm
theorem M_isMessage_no {s : MS} {z : Int32} {n2 : Nat} (hn : s.1 6 = nI n2) (q : z < 0 ∨ (¬ z < 0 ∧ nI n2 ≤ z)) : M_isMessage s z = some (0, s) := by
  unfold M_isMessage
  rw [hn]
  rcases q with q | ⟨q, q2⟩
  · rw [if_pos q]
  · rw [if_neg q, if_pos q2]
theorem M_isMessage_yes {s : MS} {n2 j : Nat} (hn : s.1 6 = nI n2) (hn2 : n2 < 2 ^ 31) (hj : j < n2) : M_isMessage s (nI j) = some (1, s) := by
  unfold M_isMessage
  rw [hn, if_neg (nI_pos (by omega)), if_neg (nI_ge hj hn2)]
theorem SX_message_ok {WF : TWF} : SX_message RX WF := by
  intro E A h x s s' i kc ks r z w R _ hi hm Q hQ
  obtain ⟨y, n, cp, rfl, R, hb⟩ := id R
  have hQ' : ∀ r0, some (r0, s) = some (r, s') → Q r0 h := by
    intro r0 e
    cases e
    exact hQ h ⟨y, n, cp, rfl, R, hb.next⟩ xg.rf
  obtain ⟨Ra, Rn, Rf, Rl, Rm, Rc, Rt, Rs, Rp⟩ := id R
  obtain ⟨f0, f1, f2, f3, f4, -⟩ := id Rf
  have hn := Rn.2.2.1.2
  unfold M_message at hm
  refine gR_of f0 rfl (nN_of (gR_of f1 rfl (nN_of (isO_of f3 (s_wget R (fun q => ?_) (fun j hj q => ?_))))))
  · refine ⟨fun _ => ?_, fun a q => by cases q⟩
    rw [M_isMessage_no Rn.2.2.1.1 q] at hm
    exact hQ' _ hm
  · subst q
    refine ⟨fun q => (by cases q), fun a q => ?_⟩
    cases q
    rw [M_isMessage_yes Rn.2.2.1.1 (by omega) hj] at hm
    simp only [Option.bind_some, lt1, if_neg (show ¬ (1 : Int32) = 0 by decide), if_neg (nI_in (c := j) (N := 60) (by omega) (by omega))] at hm
    simp only [nI_clamp (show j < 2 ^ 31 by omega)] at hm
    obtain ⟨a, b, c, d, sz, f, m1, m2, m3⟩ := Rm j (by omega)
    obtain ⟨v1, v2, v3, v4, v5, v6⟩ := m3 hj
    refine ⟨fun q => ?_, fun q => ?_⟩
    · rw [if_pos q] at hm; exact gI_of m1 rfl (hQ' _ (by rw [v1]; exact hm))
    rw [if_neg q] at hm
    refine ⟨fun q => ?_, fun q => ?_⟩
    · rw [if_pos q] at hm; exact gI_of m1 rfl (hQ' _ (by rw [v2]; exact hm))
    rw [if_neg q] at hm
    refine ⟨fun q => ?_, fun q => ?_⟩
    · rw [if_pos q] at hm; exact gI_of m1 rfl (hQ' _ (by rw [v3]; exact hm))
    rw [if_neg q] at hm
    refine ⟨fun q => ?_, fun q => ?_⟩
    · rw [if_pos q] at hm; exact gI_of m1 rfl (hQ' _ (by rw [v4]; exact hm))
    rw [if_neg q] at hm
    refine ⟨fun q => ?_, fun q => ?_⟩
    · rw [if_pos q] at hm; exact gI_of m1 rfl (hQ' _ (by rw [v5]; exact hm))
    rw [if_neg q] at hm
    exact hQ' _ hm
theorem SX_at_ok {WF : TWF} (hsz : ∀ i s, WF i s → ∀ j, j < 60 → s.2.2.1 11 j ≤ 64) : SX_at RX WF := by
  intro E A h x s s' i kc ks r z w R hW hi hm Q hQ
  obtain ⟨y, n, cp, rfl, R, hb⟩ := id R
  have hQ' : ∀ r0, some (r0, s) = some (r, s') → Q r0 h := by
    intro r0 e
    cases e
    exact hQ h ⟨y, n, cp, rfl, R, hb.next⟩ xg.rf
  obtain ⟨Ra, Rn, Rf, Rl, Rm, Rc, Rt, Rs, Rp⟩ := id R
  obtain ⟨f0, f1, f2, f3, f4, -⟩ := id Rf
  have hn := Rn.2.2.1.2
  unfold M_at at hm
  refine gR_of f0 rfl (nN_of (gR_of f1 rfl (nN_of (isO_of f3 (s_wget R (fun q => ?_) (fun j hj q => ?_))))))
  · refine ⟨fun _ => ?_, fun a q => by cases q⟩
    rw [M_isMessage_no Rn.2.2.1.1 q] at hm
    exact hQ' _ hm
  · subst q
    refine ⟨fun q => (by cases q), fun a q => ?_⟩
    cases q
    rw [M_isMessage_yes Rn.2.2.1.1 (by omega) hj] at hm
    simp only [Option.bind_some, lt1, if_neg (show ¬ (1 : Int32) = 0 by decide), if_neg (nI_in (c := j) (N := 60) (by omega) (by omega))] at hm
    simp only [nI_clamp (show j < 2 ^ 31 by omega)] at hm
    obtain ⟨a, b, c, d, sz, f, m1, m2, m3⟩ := Rm j (by omega)
    obtain ⟨v1, v2, v3, v4, v5, v6⟩ := m3 hj
    refine isO_of m1 ⟨fun q => ?_, fun q => gI_of m1 rfl ⟨fun q2 => ?_, fun q2 => ?_⟩⟩
    · rw [if_pos q] at hm
      exact ⟨fun _ => hQ' _ hm, fun q => absurd rfl q⟩
    · rw [v5] at q2
      rw [if_neg q, if_neg (Int32.not_lt.mpr q2)] at hm
      exact ⟨fun _ => hQ' _ hm, fun q => absurd rfl q⟩
    · refine ⟨fun q => absurd q (by decide), fun _ => ?_⟩
      have h64 : sz ≤ 64 := by rw [v5]; exact hsz i s hW j (by omega)
      have q3 : w < sz := Int32.not_le.mp q2
      obtain ⟨k, hk, rfl⟩ : ∃ k : Nat, k < 64 ∧ w = nI k := by
        obtain ⟨k, hk, e⟩ := nI_of2 (M := 64) (n := 64) (by decide) q (Int32.le_trans (Int32.le_of_lt q3) h64)
        refine ⟨k, ?_, e⟩
        rcases Nat.lt_or_ge k 64 with z | z
        · exact z
        · have : k = 64 := by omega
          subst this
          rw [e] at q3
          exact absurd (Int32.lt_of_lt_of_le q3 h64) (by decide)
      have hks : k < sz.toNatClampNeg := by
        rw [Int32.lt_iff_toInt_lt, nI_toInt (by omega)] at q3
        show k < sz.toInt.toNat
        omega
      rw [if_neg q, if_pos (by rw [← v5]; exact q3), show (64 : Int32) * nI j + nI k = nI (64 * j + k) by rw [show (64 : Int32) = nI 64 from rfl, pk_mul, nI_add], if_neg (nI_in (by omega) (by omega)), nI_clamp (by omega)] at hm
      refine gR_of m1 rfl (nN_of (aI_of m2 rfl hk (by omega) (v6 k hks) (hQ' _ hm)))
