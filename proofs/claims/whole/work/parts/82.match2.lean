/-! matched: the class -/
abbrev dmA (s : MS) (i k : Nat) : Prop := s.2.2.2 62 (7 * k) = s.2.2.2 62 (7 * i) ∧ s.2.2.2 62 (7 * k + 1) = s.2.2.2 62 (7 * i + 1)
def dcN (s : MS) (i : Nat) : Nat → Nat
  | 0 => 0
  | m + 1 => dcN s i m + if dmA s i m then 1 else 0
section MATCH2
variable {E : Ev} {A S : Nat → Prop} {h h' : Hp} {y y' : Nat → Nat → Nat} {s s' : MS} {n cp n' cp' : Nat → Nat} {i u k m kc ks t : Nat} {r : Int32}
theorem dcN_le (s : MS) (i m : Nat) : dcN s i m ≤ m := by
  induction m with
  | zero => exact Nat.le_refl _
  | succ m ih =>
    unfold dcN
    by_cases z : dmA s i m
    · rw [if_pos z]; omega
    · rw [if_neg z]; omega
theorem dcN_1 (s : MS) (i : Nat) : ∀ m, ((∀ k, k < m → k ≠ i → ¬ dmt s i k) → dcN s i m = if i < m then 1 else 0) ∧ ((∃ k, k < m ∧ k ≠ i ∧ dmt s i k) → 1 ≤ dcN s i m ∧ (i < m → 2 ≤ dcN s i m)) := by
  intro m
  induction m with
  | zero => exact ⟨fun _ => rfl, fun ⟨k, h1, _⟩ => absurd h1 (Nat.not_lt_zero _)⟩
  | succ m ih =>
    obtain ⟨a, b⟩ := ih
    have im : i = m → dmA s i m := fun e => by subst e; exact ⟨rfl, rfl⟩
    constructor
    · intro v
      have a' := a (fun k hk => v k (by omega))
      unfold dcN
      by_cases e : i = m
      · rw [if_pos (im e), a', if_neg (by omega), if_pos (by omega)]
      · rw [if_neg (show ¬ dmA s i m from v m (by omega) (fun w => e w.symm)), a']
        by_cases f : i < m
        · rw [if_pos f, if_pos (by omega)]
        · rw [if_neg f, if_neg (by omega)]
    · rintro ⟨k, h1, h2, h3⟩
      unfold dcN
      by_cases e : k = m
      · subst e
        rw [if_pos (show dmA s i k from h3)]
        refine ⟨by omega, fun hi => ?_⟩
        have hik : i < k := by omega
        by_cases ex : ∃ k', k' < k ∧ k' ≠ i ∧ dmt s i k'
        · have := (b ex).1; omega
        · have := a (fun k' w1 w2 w3 => ex ⟨k', w1, w2, w3⟩)
          rw [if_pos hik] at this
          omega
      · have hb := b ⟨k, by omega, h2, h3⟩
        clear a b
        by_cases f : i = m
        · rw [if_pos (im f)]
          exact ⟨by omega, fun _ => by omega⟩
        · have hb1 := hb.1
          refine ⟨by omega, fun hi => ?_⟩
          have := hb.2 (by omega)
          omega
theorem s_like {kc ks : Nat} {Q : Int32 → Hp → Prop} (R : RXo E A h y s n cp) (hi : i < n 3) (hQ : Q (nI (pcN s i (n 5))) h) : m_X10_purchasesLike E (y 0 1) (some (y 14 i)) h kc ks Q := by
  have hn5 : n 5 ≤ 512 := R.2.1.2.2.2.2.2.2.2.2.2.1.2.2.1
  have l2 := R.2.2.2.1.2.2.1
  have f1 := R.2.2.1.2.1
  obtain ⟨P1, P2, P3, -⟩ := R.2.2.2.2.2.2.2.2
  obtain ⟨c, kk, am, un, t, w, a, sl, ap, q0, q1, q2, q3, q4, q5, q6⟩ := P3 i hi
  have key : ∀ d j, n 5 - j = d → j ≤ n 5 → m_X10_purchasesLike_L4 (d + 1) E (y 0 1) (some (y 14 i)) (nI (pcN s i j)) (nI j) h kc ks Q := by
    intro d
    induction d with
    | zero =>
      intro j hd hj
      have : j = n 5 := by omega
      subst this
      exact gR_of f1 rfl (nN_of (l2.isO (s_size l2 ⟨fun _ => hQ, fun z => absurd (Int32.le_refl _) z⟩)))
    | succ d ih =>
      intro j hd hj
      have I := ih (j + 1) (by omega) (by omega)
      rw [pcN] at I
      refine gR_of f1 rfl (nN_of (l2.isO (s_size l2 ⟨fun z => absurd z (nI_ge (by omega) (by omega)), fun _ => ?_⟩)))
      obtain ⟨c', k', am', un', t', w', a', sl', e1, e2, e3, e4⟩ := P1 j (by omega)
      have mm : pmt s i j ↔ t' = t ∧ am' = am ∧ un' = un := by
        show (_ ∧ _ ∧ _) ↔ _
        rw [e2, e3, e4, q4, q2, q3, t64_inj]
      have no : ¬ pmt s i j → m_X10_purchasesLike_L4 (d + 1) E (y 0 1) (some (y 14 i)) (nI (pcN s i j)) (nI j + 1) h kc ks Q := fun z => by
        rw [if_neg z, Nat.add_zero] at I
        rw [nI_1]; exact I
      refine gR_of f1 rfl (nN_of (l2.isO (s_get l2 (by omega) (by omega) (nN_of (isO_of e1 (gI_of e1 rfl (nN_of (gI_of ap rfl ⟨fun a1 => gL_of e1 rfl (gL_of ap rfl ⟨fun a2 => gL_of e1 rfl (gL_of ap rfl ⟨fun a3 => ?_, fun a3 => no (fun z => a3 (lg_eq.mpr (mm.mp z).2.2))⟩), fun a2 => no (fun z => a2 (lg_eq.mpr (mm.mp z).2.1))⟩), fun a1 => no (fun z => a1 (mm.mp z).1)⟩))))))))
      show m_X10_purchasesLike_L4 (d + 1) E (y 0 1) (some (y 14 i)) (nI (pcN s i j) + 1) (nI j + 1) h kc ks Q
      rw [if_pos (mm.mpr ⟨a1, lg_eq.mp a2, lg_eq.mp a3⟩)] at I
      rw [nI_1, nI_1]; exact I
  have := key (n 5) 0 (by omega) (by omega)
  rw [pcN, nI_0] at this
  exact ⟨_, this⟩
theorem s_was {kc ks : Nat} {Q : Int32 → Hp → Prop} (R : RXo E A h y s n cp) (hi : i < n 3) (h1 : (∃ k, k < n 6 ∧ amt s i k) → Q 1 h) (h0 : (¬ ∃ k, k < n 6 ∧ amt s i k) → Q 0 h) : m_X10_wasAnswered E (y 0 1) (some (y 14 i)) h kc ks Q := by
  have hn6 : n 6 ≤ 512 := R.2.1.2.2.2.2.2.2.2.2.2.1.2.2.2.1
  have l3 := R.2.2.2.1.2.2.2.1
  have f1 := R.2.2.1.2.1
  obtain ⟨P1, P2, P3, -⟩ := R.2.2.2.2.2.2.2.2
  obtain ⟨c, kk, am, un, t, w, a, sl, ap, q0, q1, q2, q3, q4, q5, q6⟩ := P3 i hi
  have key : ∀ d j, n 6 - j = d → j ≤ n 6 → (∀ k, k < j → ¬ amt s i k) → m_X10_wasAnswered_L2 (d + 1) E (y 0 1) (some (y 14 i)) (nI j) h kc ks Q := by
    intro d
    induction d with
    | zero =>
      intro j hd hj hno
      have : j = n 6 := by omega
      subst this
      exact gR_of f1 rfl (nN_of (l3.isO (s_size l3 ⟨fun _ => h0 (fun ⟨k, w1, w2⟩ => hno k w1 w2), fun z => absurd (Int32.le_refl _) z⟩)))
    | succ d ih =>
      intro j hd hj hno
      have hj' : j < n 6 := by omega
      refine gR_of f1 rfl (nN_of (l3.isO (s_size l3 ⟨fun z => absurd z (nI_ge (by omega) (by omega)), fun _ => ?_⟩)))
      obtain ⟨c', k', am', un', t', w', a', sl', e1, r0, r1, r2, r3, r4, r5, r6⟩ := P2 j hj'
      have mm : amt s i j ↔ c' = c ∧ k' = kk ∧ am' = am ∧ un' = un ∧ t' = t ∧ w' = w ∧ a' = a := by
        rw [← t64_inj (a := c'), ← t64_inj (a := k'), ← t64_inj (a := t'), ← t64_inj (a := w'), ← t64_inj (a := a'), ← q0, ← q1, ← q2, ← q3, ← q4, ← q5, ← q6, ← r0, ← r1, ← r2, ← r3, ← r4, ← r5, ← r6]
        refine ⟨fun z => ⟨z 0 (by omega), z 1 (by omega), z 2 (by omega), z 3 (by omega), z 4 (by omega), z 5 (by omega), z 6 (by omega)⟩, fun ⟨z0, z1, z2, z3, z4, z5, z6⟩ q hq => ?_⟩
        match q, hq with
        | 0, _ => exact z0
        | 1, _ => exact z1
        | 2, _ => exact z2
        | 3, _ => exact z3
        | 4, _ => exact z4
        | 5, _ => exact z5
        | 6, _ => exact z6
        | q + 7, hq => omega
      have no : ¬ amt s i j → m_X10_wasAnswered_L2 (d + 1) E (y 0 1) (some (y 14 i)) (nI j + 1) h kc ks Q := fun z => by
        rw [nI_1]
        refine ih (j + 1) (by omega) (by omega) (fun k hk => ?_)
        by_cases e : k = j
        · subst e; exact z
        · exact hno k (by omega)
      exact gR_of f1 rfl (nN_of (l3.isO (s_get l3 (by omega) (by omega) (nN_of (isO_of e1 (gI_of e1 rfl (nN_of (gI_of ap rfl ⟨fun a1 => gI_of e1 rfl (gI_of ap rfl ⟨fun a2 => gL_of e1 rfl (gL_of ap rfl ⟨fun a3 => gL_of e1 rfl (gL_of ap rfl ⟨fun a4 => gI_of e1 rfl (gI_of ap rfl ⟨fun a5 => gI_of e1 rfl (gI_of ap rfl ⟨fun a6 => gI_of e1 rfl (gI_of ap rfl ⟨fun a7 => h1 ⟨j, hj', mm.mpr ⟨a1, a2, lg_eq.mp a3, lg_eq.mp a4, a5, a6, a7⟩⟩, fun z => no (fun v => z (mm.mp v).2.2.2.2.2.2)⟩), fun z => no (fun v => z (mm.mp v).2.2.2.2.2.1)⟩), fun z => no (fun v => z (mm.mp v).2.2.2.2.1)⟩), fun z => no (fun v => z (lg_eq.mpr (mm.mp v).2.2.2.1))⟩), fun z => no (fun v => z (lg_eq.mpr (mm.mp v).2.2.1))⟩), fun z => no (fun v => z (mm.mp v).2.1)⟩), fun z => no (fun v => z (mm.mp v).1)⟩))))))))
  have := key (n 6) 0 (by omega) (by omega) (fun k hk => absurd hk (Nat.not_lt_zero _))
  rw [nI_0] at this
  exact ⟨_, this⟩
theorem s_dcn {kc ks : Nat} {Q : Int32 → Hp → Prop} (R : RXo E A h y s n cp) (hi : i < n 3) (hQ : Q (nI (dcN s i (n 3))) h) : m_X3_debitsOfCounter E (y 0 2) (some (y 14 i)) h kc ks Q := by
  have hn3 : n 3 ≤ 512 := R.2.1.2.2.2.2.2.2.2.2.2.1.1
  have l6 := R.2.2.2.1.2.2.2.2.2.2.1
  have f2 := R.2.2.1.2.2.1
  obtain ⟨P1, P2, P3, -⟩ := R.2.2.2.2.2.2.2.2
  obtain ⟨c, kk, am, un, t, w, a, sl, ap, q0, q1, -⟩ := P3 i hi
  have key : ∀ d j, n 3 - j = d → j ≤ n 3 → m_X3_debitsOfCounter_L4 (d + 1) E (y 0 2) (some (y 14 i)) (nI (dcN s i j)) (nI j) h kc ks Q := by
    intro d
    induction d with
    | zero =>
      intro j hd hj
      have : j = n 3 := by omega
      subst this
      exact gR_of f2 rfl (nN_of (l6.isO (s_size l6 ⟨fun _ => hQ, fun z => absurd (Int32.le_refl _) z⟩)))
    | succ d ih =>
      intro j hd hj
      have I := ih (j + 1) (by omega) (by omega)
      rw [dcN] at I
      refine gR_of f2 rfl (nN_of (l6.isO (s_size l6 ⟨fun z => absurd z (nI_ge (by omega) (by omega)), fun _ => ?_⟩)))
      obtain ⟨c', k', am', un', t', w', a', sl', e1, e2, e3, -⟩ := P3 j (by omega)
      have mm : dmA s i j ↔ c' = c ∧ k' = kk := by
        show (_ ∧ _) ↔ _
        rw [e2, e3, q0, q1, t64_inj, t64_inj]
      have no : ¬ dmA s i j → m_X3_debitsOfCounter_L4 (d + 1) E (y 0 2) (some (y 14 i)) (nI (dcN s i j)) (nI j + 1) h kc ks Q := fun z => by
        rw [if_neg z, Nat.add_zero] at I
        rw [nI_1]; exact I
      refine gR_of f2 rfl (nN_of (l6.isO (s_get l6 (by omega) (by omega) (nN_of (isO_of e1 (gI_of e1 rfl (nN_of (gI_of ap rfl ⟨fun a1 => gI_of e1 rfl (gI_of ap rfl ⟨fun a2 => ?_, fun a2 => no (fun z => a2 (mm.mp z).2)⟩), fun a1 => no (fun z => a1 (mm.mp z).1)⟩))))))))
      show m_X3_debitsOfCounter_L4 (d + 1) E (y 0 2) (some (y 14 i)) (nI (dcN s i j) + 1) (nI j + 1) h kc ks Q
      rw [if_pos (mm.mpr ⟨a1, a2⟩)] at I
      rw [nI_1, nI_1]; exact I
  have := key (n 3) 0 (by omega) (by omega)
  rw [dcN, nI_0] at this
  exact ⟨_, this⟩
def fmC (s : MS) (n : Nat → Nat) (i : Nat) : Prop := ¬ pcN s i (n 5) = 1 ∨ (¬ ∃ k, k < n 6 ∧ amt s i k) ∨ ∃ k, k < n 3 ∧ k ≠ i ∧ dmt s i k
theorem dmt_sym {a b : Nat} (z : dmt s a b) : dmt s b a := ⟨z.1.symm, z.2.symm⟩
theorem fm_fmC : (∃ i, i < n 3 ∧ fmC s n i) ↔ ∃ i, 0 ≤ i ∧ i < n 3 ∧ fm s (n 5) (n 6) i := by
  constructor
  · rintro ⟨i, hi, z | z | ⟨k, hk, hne, z⟩⟩
    · exact ⟨i, Nat.zero_le _, hi, Or.inl z⟩
    · exact ⟨i, Nat.zero_le _, hi, Or.inr (Or.inl z)⟩
    · by_cases lt : k < i
      · exact ⟨i, Nat.zero_le _, hi, Or.inr (Or.inr ⟨k, lt, z⟩)⟩
      · exact ⟨k, Nat.zero_le _, hk, Or.inr (Or.inr ⟨i, by omega, dmt_sym z⟩)⟩
  · rintro ⟨i, -, hi, z | z | ⟨k, hk, z⟩⟩
    · exact ⟨i, hi, Or.inl z⟩
    · exact ⟨i, hi, Or.inr (Or.inl z)⟩
    · exact ⟨i, hi, Or.inr (Or.inr ⟨k, by omega, by omega, z⟩)⟩
theorem s_matched {kc ks : Nat} {Q : Int32 → Hp → Prop} (R : RXo E A h y s n cp) (h0 : (∃ i, i < n 3 ∧ fmC s n i) → Q 0 h) (h1 : (¬ ∃ i, i < n 3 ∧ fmC s n i) → Q 1 h) : m_X11_matched E (y 0 0) h kc ks Q := by
  have hn3 : n 3 ≤ 512 := R.2.1.2.2.2.2.2.2.2.2.2.1.1
  have hn5 : n 5 ≤ 512 := R.2.1.2.2.2.2.2.2.2.2.2.1.2.2.1
  have l6 := R.2.2.2.1.2.2.2.2.2.2.1
  obtain ⟨f0, f1, f2, -⟩ := id R.2.2.1
  have P3 := R.2.2.2.2.2.2.2.2.2.2.1
  have key : ∀ d j, n 3 - j = d → j ≤ n 3 → (∀ i, i < j → ¬ fmC s n i) → m_X11_matched_L2 (d + 1) E (y 0 0) (nI j) h kc ks Q := by
    intro d
    induction d with
    | zero =>
      intro j hd hj hno
      have : j = n 3 := by omega
      subst this
      exact gR_of f0 rfl (nN_of (gR_of f2 rfl (nN_of (l6.isO (s_size l6 ⟨fun _ => h1 (fun ⟨i, w1, w2⟩ => hno i w1 w2), fun z => absurd (Int32.le_refl _) z⟩)))))
    | succ d ih =>
      intro j hd hj hno
      have hj' : j < n 3 := by omega
      have ap := P3 j hj'
      obtain ⟨c, kk, am, un, t, w, a, sl, ap, -⟩ := ap
      have ep : nI (pcN s j (n 5)) = 1 ↔ pcN s j (n 5) = 1 := nI_eq (b := 1) (by have := pcN_le s j (n 5); omega) (by omega)
      have ed : nI (dcN s j (n 3)) = 1 ↔ dcN s j (n 3) = 1 := nI_eq (b := 1) (by have := dcN_le s j (n 3); omega) (by omega)
      obtain ⟨d1, d2⟩ := dcN_1 s j (n 3)
      rw [if_pos hj'] at d1
      have ge : ¬ nI (n 3) ≤ nI j := nI_ge (by omega) (by omega)
      have lt31 : n 3 < 2 ^ 31 := by omega
      refine gR_of f0 rfl (nN_of (gR_of f2 rfl (nN_of (l6.isO (s_size l6 ⟨fun z => absurd z ge, fun _ => gR_of f0 rfl (nN_of (gR_of f2 rfl (nN_of (l6.isO (s_get l6 lt31 hj' (nN_of (isO_of ap (gR_of f0 rfl (nN_of (isO_of f1 (s_like R hj' ⟨fun z1 => gR_of f0 rfl (nN_of (isO_of f1 (s_was R hj' (fun z2 => ⟨fun z => absurd z (by decide), fun _ => gR_of f0 rfl (nN_of (isO_of f2 (s_dcn R hj' ⟨fun z3 => ?_, fun z3 => ?_⟩)))⟩) (fun z2 => ⟨fun _ => h0 ⟨j, hj', Or.inr (Or.inl z2)⟩, fun z => absurd rfl z⟩)))), fun z1 => h0 ⟨j, hj', Or.inl (fun v => z1 (ep.mpr v))⟩⟩)))))))))))⟩)))))
      · rw [nI_1]
        refine ih (j + 1) (by omega) (by omega) (fun i hi => ?_)
        by_cases e : i = j
        · subst e
          rintro (v | v | v)
          · exact v (ep.mp z1)
          · exact v z2
          · have q1 := (d2 v).2 hj'
            have q2 := ed.mp z3
            omega
        · exact hno i (by omega)
      · refine h0 ⟨j, hj', Or.inr (Or.inr ?_)⟩
        by_cases ex : ∃ k, k < n 3 ∧ k ≠ j ∧ dmt s j k
        · exact ex
        · exact absurd (ed.mpr (d1 (fun k w1 w2 w3 => ex ⟨k, w1, w2, w3⟩))) z3
  have := key (n 3) 0 (by omega) (by omega) (fun k hk => absurd hk (Nat.not_lt_zero _))
  rw [nI_0] at this
  exact ⟨_, this⟩
theorem SJ_matched_ok : SJ_matched RX WF := by
  intro E A h x s i kc ks hR hW hi
  obtain ⟨y, n, cp, rfl, R, hb⟩ := id hR
  have w := hW.w hi R
  have wn := w.mono (i' := i + 1) (u' := 2 * i + 2) (by omega) (by omega)
  obtain ⟨-, -, -, r61, -, r57, r59, -, -, ⟨r3, -, r5, r6, -⟩, -⟩ := id R.2.1
  obtain ⟨e0, e1⟩ := L4_s (s := s) r61 r57 r59 r3 r5 r6 (n 3) mfu 0 (by omega) (by omega) (by unfold mfu; omega)
  rw [nI_0] at e0 e1
  by_cases z : ∃ i, i < n 3 ∧ fmC s n i
  · refine ⟨0, s, e0 (fm_fmC.mp z), ?_⟩
    exact JZ.sj hb wn (Nat.le_refl _) rfl rfl (fun Q hQ => s_matched R (fun _ => hQ h y R rfl xg.rf) (fun v => absurd z v))
  · refine ⟨1, s, e1 (fun v => z (fm_fmC.mpr v)), ?_⟩
    exact JZ.sj hb wn (Nat.le_refl _) rfl rfl (fun Q hQ => s_matched R (fun v => absurd v z) (fun _ => hQ h y R rfl xg.rf))
end MATCH2
