/-! the host takes CLEAR, and whatever comes -/
section HOST2
variable {E : Ev} {A S : Nat → Prop} {h h' : Hp} {y y' : Nat → Nat → Nat} {s s' s1 : MS} {n cp n' cp' : Nat → Nat} {kd fs fr : Int32} {cf gf v : Nat → Int64} {i u c : Nat} {r : Int32}
/-- debit j is of that card and counter -/
def dbm (s : MS) (q1 q2 j : Nat) : Prop := s.2.2.2 62 (7 * j) = (nI q1).toInt64 ∧ s.2.2.2 62 (7 * j + 1) = (nI q2).toInt64
theorem L36_end (m : Nat) (s : MS) (f : Int32) {n3 : Nat} (h61 : s.1 61 = nI n3) : M_toHost_L36 (m + 1) s f (nI n3) = if f = 0 then (if f = 0 ∨ f = 1 then some (f, s) else none) else (M_debit_I s 2).bind fun s32 => (if f = 0 ∨ f = 1 then some (f, s32) else none) := by
  rw [M_toHost_L36]
  rw [if_pos (by rw [h61]; exact Int32.le_refl _)]
theorem L36_0 {n3 : Nat} (h61 : s.1 61 = nI n3) (h3 : n3 < 512) : ∀ d j m, n3 - j = d → j ≤ n3 → d < m → M_toHost_L36 m s 0 (nI j) = some (0, s) := by
  intro d
  induction d with
  | zero =>
    intro j m hd hj hm
    obtain ⟨m, rfl⟩ : ∃ m', m = m' + 1 := ⟨m - 1, by omega⟩
    have : j = n3 := by omega
    subst this
    rw [L36_end m s 0 h61, if_pos rfl, if_pos (Or.inl rfl)]
  | succ d ih =>
    intro j m hd hj hm
    obtain ⟨m, rfl⟩ : ∃ m', m = m' + 1 := ⟨m - 1, by omega⟩
    rw [M_toHost_L36]
    rw [if_neg (by rw [h61]; exact nI_ge (by omega) (by omega)), if_pos rfl]
    unfold M_toHost_L92 M_toHost_L93
    rw [nI_1]
    exact ih (j + 1) m (by omega) (by omega) (by omega)
theorem L36_step {q1 q2 n3 : Nat} (f1 : s.2.2.2 17 1 = (nI q1).toInt64) (f2 : s.2.2.2 17 2 = (nI q2).toInt64) (h61 : s.1 61 = nI n3) (h3 : n3 < 512) {j : Nat} (hj : j < n3) (m : Nat) : (dbm s q1 q2 j → M_toHost_L36 (m + 1) s 1 (nI j) = M_toHost_L36 m s 0 (nI (j + 1))) ∧ (¬ dbm s q1 q2 j → M_toHost_L36 (m + 1) s 1 (nI j) = M_toHost_L36 m s 1 (nI (j + 1))) := by
  have i0 : (7 : Int32) * nI j = nI (7 * j) := pk_mul 7 _
  have base : M_toHost_L36 (m + 1) s 1 (nI j) = if s.2.2.2 62 (7 * j) = (nI q1).toInt64 then if s.2.2.2 62 (7 * j + 1) = (nI q2).toInt64 then M_toHost_L36 m s 0 (nI (j + 1)) else M_toHost_L36 m s 1 (nI (j + 1)) else M_toHost_L36 m s 1 (nI (j + 1)) := by
    rw [M_toHost_L36]
    rw [if_neg (by rw [h61]; exact nI_ge (by omega) (by omega)), if_neg (by decide)]
    unfold M_toHost_L92 M_toHost_L88 M_toHost_L93
    have i1 : nI (7 * j) + 1 = nI (7 * j + 1) := nI_1 _
    have i2 : nI j + 1 = nI (j + 1) := nI_1 _
    have j0 : (nI (7 * j)).toNatClampNeg = 7 * j := nI_clamp (by omega)
    have j1 : (nI (7 * j + 1)).toNatClampNeg = 7 * j + 1 := nI_clamp (by omega)
    have b0 : (nI (7 * j) < 0 ∨ 4200 ≤ 7 * j) = False := ixF (by omega) (by omega)
    have b1 : (nI (7 * j + 1) < 0 ∨ 4200 ≤ 7 * j + 1) = False := ixF (by omega) (by omega)
    simp only [i0, i1, i2, j0, j1, b0, b1, tC1, tB1, tC2, tB2, if_false, f1, f2, lg_eq]
  rw [base]
  refine ⟨fun z => by rw [if_pos z.1, if_pos z.2], fun z => ?_⟩
  by_cases a : s.2.2.2 62 (7 * j) = (nI q1).toInt64
  · rw [if_pos a, if_neg (fun b => z ⟨a, b⟩)]
  · rw [if_neg a]
theorem L36_1 {q1 q2 n3 : Nat} (f1 : s.2.2.2 17 1 = (nI q1).toInt64) (f2 : s.2.2.2 17 2 = (nI q2).toInt64) (h61 : s.1 61 = nI n3) (h3 : n3 < 512) : ∀ d j m, n3 - j = d → j ≤ n3 → d < m → ((∀ k, j ≤ k → k < n3 → ¬ dbm s q1 q2 k) → M_toHost_L36 m s 1 (nI j) = (M_debit_I s 2).bind fun s32 => some (1, s32)) ∧ ((∃ k, j ≤ k ∧ k < n3 ∧ dbm s q1 q2 k) → M_toHost_L36 m s 1 (nI j) = some (0, s)) := by
  intro d
  induction d with
  | zero =>
    intro j m hd hj hm
    obtain ⟨m, rfl⟩ : ∃ m', m = m' + 1 := ⟨m - 1, by omega⟩
    have : j = n3 := by omega
    subst this
    refine ⟨fun _ => ?_, fun ⟨k, h1, h2, _⟩ => by omega⟩
    rw [L36_end m s 1 h61, if_neg (by decide)]
    rfl
  | succ d ih =>
    intro j m hd hj hm
    obtain ⟨m, rfl⟩ : ∃ m', m = m' + 1 := ⟨m - 1, by omega⟩
    obtain ⟨p1, p0⟩ := L36_step f1 f2 h61 h3 (j := j) (by omega) m
    obtain ⟨i1, i2⟩ := ih (j + 1) m (by omega) (by omega) (by omega)
    by_cases z : dbm s q1 q2 j
    · refine ⟨fun q => absurd z (q j (Nat.le_refl _) (by omega)), fun _ => ?_⟩
      rw [p1 z]
      exact L36_0 h61 h3 d (j + 1) m (by omega) (by omega) (by omega)
    · rw [p0 z]
      refine ⟨fun q => i1 (fun k h1 h2 => q k (by omega) h2), fun ⟨k, h1, h2, h3⟩ => i2 ⟨k, ?_, h2, h3⟩⟩
      by_cases e : k = j
      · subst e; exact absurd h3 z
      · omega
theorem s_cnt {q1 q2 p : Nat} {t0 w0 a0 : Int32} {am un sl : Int64} {kc ks : Nat} {Q : Int32 → Hp → Prop} (X : CX E A h y s n cp kd fs fr cf gf) (ap : PAY h p (nI q1) (nI q2) am un t0 w0 a0 sl) (h0 : (∀ k, k < n 3 → ¬ dbm s q1 q2 k) → Q 0 h) (h1 : (∃ k, k < n 3 ∧ dbm s q1 q2 k) → ∀ x : Nat, 0 < x → x ≤ 512 → Q (nI x) h) : m_X3_debitsOfCounter E (y 0 2) (some p) h kc ks Q := by
  have hn3 : n 3 ≤ 512 := X.1.2.1.2.2.2.2.2.2.2.2.2.1.1
  have l6 := X.1.2.2.2.1.2.2.2.2.2.2.1
  have P3 := X.1.2.2.2.2.2.2.2.2.2.2.1
  have key : ∀ d j cnt, n 3 - j = d → j ≤ n 3 → cnt ≤ j → (cnt = 0 → (∀ k, j ≤ k → k < n 3 → ¬ dbm s q1 q2 k) → Q 0 h) → ((0 < cnt ∨ ∃ k, j ≤ k ∧ k < n 3 ∧ dbm s q1 q2 k) → ∀ x : Nat, 0 < x → x ≤ 512 → Q (nI x) h) → m_X3_debitsOfCounter_L4 (d + 1) E (y 0 2) (some p) (nI cnt) (nI j) h kc ks Q := by
    intro d
    induction d with
    | zero =>
      intro j cnt hd hj hcj q0 q1'
      have : j = n 3 := by omega
      subst this
      refine gR_of X.host rfl (nN_of (l6.isO (s_size l6 ⟨fun _ => ?_, fun z => absurd (Int32.le_refl _) z⟩)))
      by_cases z : cnt = 0
      · subst z; exact q0 rfl (fun k h1 h2 => by omega)
      · exact q1' (Or.inl (by omega)) cnt (by omega) (by omega)
    | succ d ih =>
      intro j cnt hd hj hcj q0 q1'
      refine gR_of X.host rfl (nN_of (l6.isO (s_size l6 ⟨fun z => absurd z (nI_ge (by omega) (by omega)), fun _ => ?_⟩)))
      obtain ⟨c', k', am', un', t', w', a', sl', e1, e2, e3, -⟩ := P3 j (by omega)
      have mm : dbm s q1 q2 j ↔ c' = nI q1 ∧ k' = nI q2 := by
        unfold dbm
        rw [e2, e3, t64_inj, t64_inj]
      refine gR_of X.host rfl (nN_of (l6.isO (s_get l6 (by omega) (by omega) (nN_of (isO_of e1 (gI_of e1 rfl (nN_of (gI_of ap rfl ⟨fun a1 => gI_of e1 rfl (gI_of ap rfl ⟨fun a2 => ?_, fun a2 => ?_⟩), fun a1 => ?_⟩))))))))
      · show m_X3_debitsOfCounter_L4 (d + 1) E (y 0 2) (some p) (nI cnt + 1) (nI j + 1) h kc ks Q
        rw [nI_1, nI_1]
        exact ih (j + 1) (cnt + 1) (by omega) (by omega) (by omega) (fun z => by omega) (fun _ x hx hx2 => q1' (Or.inr ⟨j, Nat.le_refl _, by omega, mm.mpr ⟨a1, a2⟩⟩) x hx hx2)
      · show m_X3_debitsOfCounter_L4 (d + 1) E (y 0 2) (some p) (nI cnt) (nI j + 1) h kc ks Q
        rw [nI_1]
        refine ih (j + 1) cnt (by omega) (by omega) (by omega) (fun z q => q0 z (fun k h1 h2 => ?_)) (fun q x hx hx2 => q1' ?_ x hx hx2)
        · by_cases e : k = j
          · subst e; exact fun z => a2 (mm.mp z).2
          · exact q k (by omega) h2
        · rcases q with q | ⟨k, h1, h2, h3⟩
          · exact Or.inl q
          · exact Or.inr ⟨k, by omega, h2, h3⟩
      · show m_X3_debitsOfCounter_L4 (d + 1) E (y 0 2) (some p) (nI cnt) (nI j + 1) h kc ks Q
        rw [nI_1]
        refine ih (j + 1) cnt (by omega) (by omega) (by omega) (fun z q => q0 z (fun k h1 h2 => ?_)) (fun q x hx hx2 => q1' ?_ x hx hx2)
        · by_cases e : k = j
          · subst e; exact fun z => a1 (mm.mp z).1
          · exact q k (by omega) h2
        · rcases q with q | ⟨k, h1, h2, h3⟩
          · exact Or.inl q
          · exact Or.inr ⟨k, by omega, h2, h3⟩
  refine ⟨n 3 + 1, ?_⟩
  have := key (n 3) 0 0 (by omega) (by omega) (by omega) (fun _ q => h0 (fun k hk => q k (by omega) hk)) (fun q => by
    rcases q with q | ⟨k, _, h2, h3⟩
    · omega
    · exact h1 ⟨k, h2, h3⟩)
  exact this
theorem J_clr {q1 q2 q5 q6 : Nat} (X : CX E A h y s n cp 11 fs fr cf gf) (w : W2 i u s n) (hi : i < 512) (hu : u < 1998) (f1 : s.2.2.2 17 1 = cf 1) (f2 : s.2.2.2 17 2 = cf 2) (f3 : s.2.2.2 17 3 = cf 3) (f4 : s.2.2.2 17 4 = cf 4) (f5 : s.2.2.2 17 5 = cf 5) (f6 : s.2.2.2 17 6 = cf 6) (f8 : s.2.2.2 17 8 = cf 8) (f11 : s.2.2.2 17 11 = cf 11)
    (hq1 : q1 < 256) (e1 : cf 1 = (nI q1).toInt64) (hq2 : q2 < 65536) (e2 : cf 2 = (nI q2).toInt64) (hq5 : q5 < 65536) (e5 : cf 5 = (nI q5).toInt64) (e6 : cf 6 = (nI q6).toInt64) :
    Mw (M_toHost_L12 s 11) (fun r s' => (r = 0 ∨ r = 1) ∧ JP E A h y n cp (i + 1) (u + 2) (fun kc ks Q => m_X3_takesClear E (y 0 2) (some (y 0 5)) h kc ks Q) r s') := by
  have R := X.1
  have hn0 := R.2.1.1.2
  have hn3 : n 3 ≤ i := w.1.2.2.2.1.2
  have hcp := R.2.1.2.2.2.2.2.2.2.2.2.2
  unfold M_toHost_L12
  refine Mw.b ?_
  have hlS : sgL 11 (s.2.2.2 17) = [(nI 11).toInt64, (nI q1).toInt64, (nI q2).toInt64, cf 3, cf 4, (nI q5).toInt64, (nI q6).toInt64, cf 8] := by
    unfold sgL
    rw [f1, f2, f3, f4, f5, f6, f8, e1, e2, e5, e6]
  have hv0 : vis (rowS s (sgL 11 (s.2.2.2 17))) = vis s := vis_row _ _
  have pre : ∀ (kc ks : Nat) (Q : Int32 → Hp → Prop), 1 ≤ kc → 8 ≤ ks → (q5 < n 1 → Good (rowS s (sgL 11 (s.2.2.2 17))) (nI (256 * 1 + q5)) 8 (fun i => (sgL 11 (s.2.2.2 17)).getD i 0) (n 4) (cf 11) → ∀ h2 p, CX E A h2 y s n cp 11 fs fr cf gf → PAY h2 p (nI q1) (nI q2) (cf 3) (cf 4) (nI q5) (nI q6) 2 (cf 8) → A p → (∀ t', t' < n 1 → p ≠ y 6 t') → xg A h h2 → m_X3_isAnswerOfCard E (y 0 2) (some p) h2 0 0 (fun x13 h14 => br (x13 = 0) (Q 0 h14) (isO h14 (y 0 2) 4 (m_X3_debitsOfCounter E (y 0 2) (some p) h14 0 0 (fun x17 h18 => br (x17 ≤ 0) (gR h18 (y 0 2) 4 1 fun r21 => nN (some p) fun a23 => gI h18 a23 6 0 fun x24 => nN r21 fun a28 => isO h18 a28 0 (m_Jx4a65c_get_915e3 E a28 x24 h18 0 0 (fun r26 h27 => nN r26 fun a30 => isO h27 a30 1 (isO h27 (y 0 2) 4 (cK (kc - 1) (ks - 8) fun mc32 ms33 kc34 ks35 => m_X3_take E (y 0 2) (some a30) (some a23) h27 mc32 ms33 (fun h37 => Q 1 h37)))))) (Q 0 h18)))))) → (¬ (q5 < n 1 ∧ Good (rowS s (sgL 11 (s.2.2.2 17))) (nI (256 * 1 + q5)) 8 (fun i => (sgL 11 (s.2.2.2 17)).getD i 0) (n 4) (cf 11)) → ∀ h2, CX E A h2 y s n cp 11 fs fr cf gf → xg A h h2 → Q 0 h2) → m_X3_takesClear E (y 0 2) (some (y 0 5)) h kc ks Q := by
    intro kc ks Q k1 k2 p1 p0
    refine cK_of 1 8 k1 k2 (s_payOf (ans := 2) X e1 e2 e5 e6 (Nat.le_refl _) (Nat.le_refl _) (fun h1 p X1 ap hA hne g1 => isO_of X1.host (s_isFrom (k := 11) X1 ap hq5 hlS hv0 (fun z1 z2 h2 X2 ap2 g2 => ⟨fun z => absurd z (by decide), fun _ => isO_of X2.host (p1 z1 z2 h2 p X2 ap2 hA hne (g1.tr g2))⟩) (fun z h2 X2 g2 => ⟨fun _ => p0 z h2 X2 (g1.tr g2), fun z => absurd rfl z⟩))))
  refine M_isSigned_spec (k := 11) (cf := cf) w (by omega) (f5.trans e5) hq5 f11 (fun c5 hg => ?_) (fun hno => ?_)
  rotate_left
  · dsimp only [lt1]
    refine Mw.y rfl (Mw.r ⟨Or.inl rfl, n, cp, (w.eqv hv0).mono (by omega) (by omega), Nat.le_refl _, Nat.le_refl _, fun kc ks k1 k2 Q hQ => pre kc ks Q (by omega) (by omega) (fun a b => absurd ⟨a, b⟩ hno) (fun _ h2 X2 g2 => hQ h2 y (X2.1.eqv hv0) rfl g2)⟩)
  dsimp only [lt1]
  refine Mw.no (by decide) (Mw.y rfl (Mw.b ?_))
  have g17 : (rowS s (sgL 11 (s.2.2.2 17))).2.2.2 17 = s.2.2.2 17 := rowS_17 _ _
  have w4 := w.eqv hv0
  generalize hs4 : rowS s (sgL 11 (s.2.2.2 17)) = s4 at hv0 hg g17 w4 pre ⊢
  have hlA : anL 2 (s4.2.2.2 17) = [6, (2 : Int32).toInt64, cf 3, cf 4, (nI q5).toInt64, (nI q2).toInt64, (nI q6).toInt64] := by
    unfold anL
    rw [g17, f3, f4, f5, f2, f6, e5, e2, e6]
  have hv8 : vis (rowS s4 (anL 2 (s4.2.2.2 17))) = vis s := (vis_row _ _).trans hv0
  have g8 : (rowS s4 (anL 2 (s4.2.2.2 17))).2.2.2 17 = s.2.2.2 17 := (rowS_17 _ _).trans g17
  have Rn8 : RXn (rowS s4 (anL 2 (s4.2.2.2 17))) n cp := (R.eqv hv8).2.1
  have w8 := w.eqv hv8
  have h61 : (rowS s4 (anL 2 (s4.2.2.2 17))).1 61 = nI (n 3) := Rn8.2.2.2.1
  refine M_isAnswer_spec (cf := cf) (q1 := q1) w4 (by omega) (by rw [g17, f1, e1]) (by omega) (by rw [g17, f8]) (fun c1 hga => ?_) (fun hno => ?_)
  rotate_left
  · refine Mw.e (L36_0 h61 (by omega) (n 3) 0 mfu (by omega) (by omega) (by unfold mfu; omega)) ⟨Or.inl rfl, n, cp, w8.mono (by omega) (by omega), Nat.le_refl _, Nat.le_refl _, fun kc ks k1 k2 Q hQ => pre kc ks Q (by omega) (by omega) (fun _ _ h2 p X2 ap2 hA hne g2 => ?_) (fun z => absurd ⟨c5, hg⟩ z)⟩
    exact s_isAns X2 ap2 (by omega) hlA hv8 (fun a b => absurd ⟨a, b⟩ hno) (fun _ h3 X3 ap3 g3 => ⟨fun _ => hQ h3 y (X3.1.eqv hv8) rfl (g2.tr g3), fun z => absurd rfl z⟩)
  generalize hs8 : rowS s4 (anL 2 (s4.2.2.2 17)) = s8 at hv8 g8 Rn8 w8 h61 hga ⊢
  have k62 : s8.2.2.2 62 = s.2.2.2 62 := by
    have := congrArg (fun t : TV => (unvis t).2.2.2 62) hv8
    exact this
  have k25 : s8.2.2.2 25 = s.2.2.2 25 := by
    have := congrArg (fun t : TV => (unvis t).2.2.2 25) hv8
    exact this
  have dbE : ∀ j, dbm s8 q1 q2 j ↔ dbm s q1 q2 j := fun j => by unfold dbm; rw [k62]
  obtain ⟨L1, L0⟩ := L36_1 (s := s8) (q1 := q1) (q2 := q2) (by rw [g8, f1, e1]) (by rw [g8, f2, e2]) h61 (by omega) (n 3) 0 mfu (by omega) (by omega) (by unfold mfu; omega)
  have pre2 : ∀ (kc ks : Nat) (Q : Int32 → Hp → Prop), 1 ≤ kc → 8 ≤ ks → (∀ h3 p, CX E A h3 y s n cp 11 fs fr cf gf → PAY h3 p (nI q1) (nI q2) (cf 3) (cf 4) (nI q5) (nI q6) 2 (cf 8) → A p → (∀ t', t' < n 1 → p ≠ y 6 t') → xg A h h3 → ((∃ k, k < n 3 ∧ dbm s q1 q2 k) → Q 0 h3) ∧ ((∀ k, k < n 3 → ¬ dbm s q1 q2 k) → isO h3 (y 0 2) 4 (cK (kc - 1) (ks - 8) fun mc32 ms33 kc34 ks35 => m_X3_take E (y 0 2) (some (y 9 q1)) (some p) h3 mc32 ms33 (fun h37 => Q 1 h37)))) → m_X3_takesClear E (y 0 2) (some (y 0 5)) h kc ks Q := by
    intro kc ks Q k1 k2 hn
    refine pre kc ks Q k1 k2 (fun _ _ h2 p X2 ap2 hA hne g2 => s_isAns X2 ap2 (by omega) hlA hv8 (fun _ _ h3 X3 ap3 g3 => ⟨fun z => absurd z (by decide), fun _ => isO_of X3.host (s_cnt X3 ap3 (fun q => ⟨fun _ => ?_, fun z => absurd (Int32.le_refl _) z⟩) (fun q x hx hx2 => ⟨fun z => absurd z (nI_nle hx (by omega)), fun _ => (hn h3 p X3 ap3 hA hne (g2.tr g3)).1 q⟩))⟩) (fun z => absurd ⟨c1, hga⟩ z)) (fun z => absurd ⟨c5, hg⟩ z)
    have l5 := X3.1.2.2.2.1.2.2.2.2.2.1
    have ac := X3.account c1
    exact gR_of X3.host rfl (nN_of (gI_of ap3 rfl (nN_of (l5.isO (s_get l5 (by omega) c1 (nN_of (isO_of ac ((hn h3 p X3 ap3 hA hne (g2.tr g3)).2 q))))))))
  by_cases ex : ∃ k, k < n 3 ∧ dbm s q1 q2 k
  · obtain ⟨k0, hk0, hm0⟩ := ex
    refine Mw.e (L0 ⟨k0, by omega, hk0, (dbE k0).mpr hm0⟩) ⟨Or.inl rfl, n, cp, w8.mono (by omega) (by omega), Nat.le_refl _, Nat.le_refl _, fun kc ks k1 k2 Q hQ => pre2 kc ks Q (by omega) (by omega) (fun h3 p X3 ap3 hA hne g3 => ⟨fun _ => hQ h3 y (X3.1.eqv hv8) rfl g3, fun z => absurd hm0 (z k0 hk0)⟩)⟩
  have nex : ∀ k, k < n 3 → ¬ dbm s q1 q2 k := fun k hk z => ex ⟨k, hk, z⟩
  have hgF := grow_F (n := n) (cp := cp) (j0 := 18) (m := n 3) (by omega) (by omega) hcp (by omega) (cp10 R (by omega) (by omega))
  have e36 := L1 (fun k _ hk z => nex k hk ((dbE k).mp z))
  rw [M_debit_eq (cf := cf) (n := n) (q1 := q1) (q2 := q2) (q5 := q5) (q6 := q6) (by rw [g8, f1, e1]) (by rw [g8, f2, e2]) (by rw [g8, f3]) (by rw [g8, f4]) (by rw [g8, f5, e5]) (by rw [g8, f6, e6]) (by omega) h61 (by omega), Option.bind_some, k25] at e36
  have gg := hgF.1
  refine Mw.e e36 ⟨Or.inr rfl, va_up n 3 (n 3 + 1), va_up cp 18 (alC (n 3) (cp 18)), ((w8.acc1 c1 (s.2.2.2 25 q1 - cf 3)).deb (nI q1) (nI q2) (nI q5) (nI q6) 2 (cf 3) (cf 4)).mono (Nat.le_refl _) (by omega), Nat.le_refl _, ?_, fun kc ks k1 k2 Q hQ => ?_⟩
  · show Fs n (va_up cp 18 (alC (n 3) (cp 18))) ≤ Fs n cp
    omega
  have k1' : 6 + Fc n ≤ kc + Fc n := k1
  have k2' : 200 + Fs n cp ≤ ks + Fs n (va_up cp 18 (alC (n 3) (cp 18))) := k2
  refine pre2 kc ks Q (by omega) (by omega) (fun h3 p X3 ap3 hA hne g3 => ⟨fun z => absurd z ex, fun _ => ?_⟩)
  exact isO_of X3.host (cK_of 1 (if n 3 = cp 18 then al_cap (cp 18) else 0) (by omega) (by omega) (s_take X3 c1 (by omega) ap3 hA hne (Nat.le_refl _) (Nat.le_refl _) (fun h5 y5 X5 ap5 hy5 g5 => hQ h5 y5 (X5.1.eqv (vis_d25 hv8 _ _ _ _ _ _ _ _ _ _)) (hy5 0 0 (by omega) (by omega)) (g3.tr g5))))
theorem J_toHost {k : Nat} (hk : 1 ≤ k ∧ k < 12) (X : CX E A h y s n cp (nI k) fs fr cf gf) (w : W2 i u s n) (hi : i < 512) (hu : u < 1998) (hF : FD k s cf) (hF1 : ∀ t, 1 ≤ t → t ≤ 11 → hasK k t = true → lenT t = 1 → ∃ q, q < 256 ∧ cf t = (nI q).toInt64) :
    Mw (M_toHost s (nI k)) (fun r s' => (r = 0 ∨ r = 1) ∧ JP E A h y n cp (i + 1) (u + 2) (fun kc ks Q => m_X3_takes E (y 0 2) (some (y 0 5)) h kc ks Q) r s') := by
  have hcK : ∀ {kc ks : Nat} {P : Nat → Nat → Nat → Nat → Prop}, P kc ks (kc - kc) (ks - ks) → cK kc ks P := fun hp => cK_of _ _ (Nat.le_refl _) (Nat.le_refl _) hp
  unfold M_toHost
  by_cases e7 : k = 7
  · subst e7
    obtain ⟨q1, hq1, e1⟩ := hF1 1 (by omega) (by omega) (by decide +kernel) (by decide +kernel)
    obtain ⟨q2, hq2, e2⟩ := (hF 2 (by omega) (by omega) (by decide +kernel)).2 (by decide +kernel)
    obtain ⟨q5, hq5, e5⟩ := hF1 5 (by omega) (by omega) (by decide +kernel) (by decide +kernel)
    obtain ⟨q6, hq6, e6⟩ := hF1 6 (by omega) (by omega) (by decide +kernel) (by decide +kernel)
    refine Mw.y rfl ((J_req X w hi hu (hF 1 (by omega) (by omega) (by decide +kernel)).1 (hF 2 (by omega) (by omega) (by decide +kernel)).1 (hF 3 (by omega) (by omega) (by decide +kernel)).1 (hF 4 (by omega) (by omega) (by decide +kernel)).1 (hF 5 (by omega) (by omega) (by decide +kernel)).1 (hF 6 (by omega) (by omega) (by decide +kernel)).1 (hF 8 (by omega) (by omega) (by decide +kernel)).1 (hF 11 (by omega) (by omega) (by decide +kernel)).1 hq1 e1 hq2 e2 (by omega) e5 e6).m (fun r s' j => ?_))
    obtain ⟨h01, n', cp', j1, j2, j3, j4⟩ := j
    exact ⟨h01, n', cp', j1, j2, j3, fun kc ks k1 k2 Q hQ => nN_of (gI_of X.2.1 rfl ⟨fun _ => isO_of X.host (hcK (j4 kc ks k1 k2 (fun x9 h10 => (x9 = 0 ∨ x9 = 1) ∧ Q x9 h10) (fun h' y' R' hy g' => ⟨h01, hQ h' y' R' hy g'⟩))), fun z => absurd rfl z⟩)⟩
  have k7 : ¬ nI k = 7 := fun z => e7 ((nI_eq (b := 7) (by omega) (by omega)).mp z)
  refine Mw.no k7 ?_
  by_cases e11 : k = 11
  · subst e11
    obtain ⟨q1, hq1, e1⟩ := hF1 1 (by omega) (by omega) (by decide +kernel) (by decide +kernel)
    obtain ⟨q2, hq2, e2⟩ := (hF 2 (by omega) (by omega) (by decide +kernel)).2 (by decide +kernel)
    obtain ⟨q5, hq5, e5⟩ := hF1 5 (by omega) (by omega) (by decide +kernel) (by decide +kernel)
    obtain ⟨q6, hq6, e6⟩ := hF1 6 (by omega) (by omega) (by decide +kernel) (by decide +kernel)
    refine Mw.y rfl ((J_clr X w hi hu (hF 1 (by omega) (by omega) (by decide +kernel)).1 (hF 2 (by omega) (by omega) (by decide +kernel)).1 (hF 3 (by omega) (by omega) (by decide +kernel)).1 (hF 4 (by omega) (by omega) (by decide +kernel)).1 (hF 5 (by omega) (by omega) (by decide +kernel)).1 (hF 6 (by omega) (by omega) (by decide +kernel)).1 (hF 8 (by omega) (by omega) (by decide +kernel)).1 (hF 11 (by omega) (by omega) (by decide +kernel)).1 hq1 e1 hq2 e2 (by omega) e5 e6).m (fun r s' j => ?_))
    obtain ⟨h01, n', cp', j1, j2, j3, j4⟩ := j
    exact ⟨h01, n', cp', j1, j2, j3, fun kc ks k1 k2 Q hQ => nN_of (gI_of X.2.1 rfl ⟨fun z => absurd z (by decide), fun _ => ⟨fun _ => isO_of X.host (hcK (j4 kc ks k1 k2 (fun x9 h10 => (x9 = 0 ∨ x9 = 1) ∧ Q x9 h10) (fun h' y' R' hy g' => ⟨h01, hQ h' y' R' hy g'⟩))), fun z => absurd rfl z⟩⟩)⟩
  have k11 : ¬ nI k = 11 := fun z => e11 ((nI_eq (b := 11) (by omega) (by omega)).mp z)
  refine Mw.no k11 (Mw.r ⟨Or.inl rfl, JP.same X.1 (w.mono (by omega) (by omega)) (fun kc ks Q hQ => nN_of (gI_of X.2.1 rfl ⟨fun z => absurd z k7, fun _ => ⟨fun z => absurd z k11, fun _ => hQ⟩⟩))⟩)
end HOST2
