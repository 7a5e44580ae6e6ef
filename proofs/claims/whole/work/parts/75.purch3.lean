/-! purchase, all of it -/
theorem ixD (z : Int32) {N : Nat} (hN : N < 2 ^ 31) : (z < 0 ∨ nI N ≤ z) ∨ ∃ j, j < N ∧ z = nI j :=
  ix3 z hN (fun q => Or.inl (Or.inl q)) (fun _ q => Or.inl (Or.inr q)) (fun j hj e => Or.inr ⟨j, hj, e⟩)
theorem ixN {z : Int32} {N j : Nat} (hN : N < 2 ^ 31) (hj : j < N) (e : z = nI j) : ¬ (z < 0 ∨ nI N ≤ z) := by
  subst e
  rintro (q | q)
  · exact nI_pos (by omega) q
  · exact nI_ge hj hN q
theorem SJ_purchase_ok : SJ_purchase RX WF := by
  intro E A h x s i kc ks z0 z1 z2 z3 hR hW hi
  obtain ⟨y, n, cp, rfl, R, hb⟩ := id hR
  have w := hW.w hi R
  have wn := w.mono (i' := i + 1) (u' := 2 * i + 2) (by omega) (by omega)
  have hn0 := R.2.1.1
  have hn1 := R.2.1.2.1
  obtain ⟨f0, f1, -⟩ := id R.2.2.1
  have l1 := R.2.2.2.1.2.1
  have stay : M_purchase s z0 z1 z2 z3 = some (-1, s) → (∀ (kc ks : Nat) (Q : Int32 → Hp → Prop), Q (-1) h → m_X11_purchase E (y 0 0) z0 z1 z2 z3 h kc ks Q) → ∃ r s', M_purchase s z0 z1 z2 z3 = some (r, s') ∧ WF (i + 1) s' ∧ cK kc ks fun mc ms kc1 ks1 => ∀ Q : Int32 → Hp → Prop, (∀ h', RX E A h' (y 0 0) s' (i + 1) kc1 ks1 → xg A h h' → Q r h') → m_X11_purchase E (y 0 0) z0 z1 z2 z3 h mc ms Q := by
    intro e hX
    have := JP.same (E := E) (A := A) (h := h) (y := y) (n := n) (cp := cp) (r := (-1 : Int32)) (X := fun kc ks Q => m_X11_purchase E (y 0 0) z0 z1 z2 z3 h kc ks Q) R wn hX
    exact ⟨-1, s, e, this.sj hb hi (Nat.le_refl _)⟩
  rcases ixD z0 (N := n 1) (by omega) with q0 | ⟨t, ht, e0⟩
  · refine stay ?_ (fun kc ks Q hQ => gR_of f0 rfl (nN_of (isO_of f1 (s_isTerminal R (fun _ => ⟨fun _ => hQ, fun z => absurd rfl z⟩) (fun j hj e => absurd q0 (ixN (by omega) hj e))))))
    unfold M_purchase
    by_cases a : z0 < 0
    · rw [if_pos a]
    · rw [if_neg a, hn1.1, if_pos (q0.resolve_left a)]
  have m0 : ∀ {o o' : Option (Int32 × MS)}, (if z0 < 0 then o else if s.1 36 ≤ z0 then o else o') = o' := fun {o o'} => by
    have := ixN (N := n 1) (by omega) ht e0
    rw [if_neg (fun q => this (Or.inl q)), hn1.1, if_neg (fun q => this (Or.inr q))]
  have pre0 : ∀ (kc ks : Nat) (Q : Int32 → Hp → Prop), m_X10_isCard E (y 0 1) z1 h 0 0 (fun x11 h12 => br (x11 = 0) (Q (-1) h12) (m_X11_isWithin E z2 1 1000000000 h12 0 0 (fun x16 h17 => br (x16 = 0) (Q (-1) h17) (m_X11_isWithin E z3.toInt64 0 9999 h17 0 0 (fun x20 h21 => br (x20 = 0) (Q (-1) h21) (gR h21 (y 0 0) 12 0 fun r24 => nN r24 fun a26 => gR h21 a26 11 3 fun r27 => nN r27 fun a31 => isO h21 a31 0 (m_Jx4a65c_get_915e3 E a31 z0 h21 0 0 (fun r29 h30 => nN r29 fun a33 => isO h30 a33 9 (isO h30 a33 9 (cK kc ks fun mc35 ms36 kc37 ks38 => m_X8_start E a33 z1 z2 z3 h30 mc35 ms36 (fun x39 h40 => Q x39 h40)))))))))) ) → m_X11_purchase E (y 0 0) z0 z1 z2 z3 h kc ks Q := fun kc ks Q hm => gR_of f0 rfl (nN_of (isO_of f1 (s_isTerminal R (fun q => absurd q (ixN (by omega) ht e0)) (fun j hj e => ⟨fun z => absurd z (by decide), fun _ => gR_of f0 rfl (nN_of (isO_of f1 hm))⟩))))
  rcases ixD z1 (N := n 0) (by omega) with q1 | ⟨c, hc, e1⟩
  · refine stay ?_ (fun kc ks Q hQ => pre0 kc ks Q (s_isCard R (fun _ => ⟨fun _ => hQ, fun z => absurd rfl z⟩) (fun j hj e => absurd q1 (ixN (by omega) hj e))))
    unfold M_purchase
    rw [m0]
    by_cases a : z1 < 0
    · rw [if_pos a]
    · rw [if_neg a, hn0.1, if_pos (q1.resolve_left a)]
  have m1 : ∀ {o o' : Option (Int32 × MS)}, (if z1 < 0 then o else if s.1 21 ≤ z1 then o else o') = o' := fun {o o'} => by
    have := ixN (N := n 0) (by omega) hc e1
    rw [if_neg (fun q => this (Or.inl q)), hn0.1, if_neg (fun q => this (Or.inr q))]
  by_cases w2 : wi z2 1 1000000000
  rotate_left
  · refine stay ?_ (fun kc ks Q hQ => pre0 kc ks Q (s_isCard R (fun q => absurd q (ixN (by omega) hc e1)) (fun j hj e => ⟨fun z => absurd z (by decide), fun _ => s_wi (fun a => absurd a w2) (fun _ => ⟨fun _ => hQ, fun z => absurd rfl z⟩)⟩)))
    unfold M_purchase
    rw [m0, m1, (M_isIn_eq s z2 1 1000000000).2 w2, Option.bind_some, lt1_e, lt1_e, if_pos rfl]
  by_cases w3 : wi z3.toInt64 0 9999
  rotate_left
  · refine stay ?_ (fun kc ks Q hQ => pre0 kc ks Q (s_isCard R (fun q => absurd q (ixN (by omega) hc e1)) (fun j hj e => ⟨fun z => absurd z (by decide), fun _ => s_wi (fun _ => ⟨fun z => absurd z (by decide), fun _ => s_wi (fun a => absurd a w3) (fun _ => ⟨fun _ => hQ, fun z => absurd rfl z⟩)⟩) (fun a => absurd w2 a)⟩)))
    unfold M_purchase
    rw [m0, m1, (M_isIn_eq s z2 1 1000000000).1 w2, Option.bind_some, lt1_e, lt1_e, if_neg (show ¬ (1 : Int32) = 0 by decide), (M_isIn_eq s z3.toInt64 0 9999).2 w3, Option.bind_some, lt1_e, lt1_e, if_pos rfl]
  have hn5 : n 5 ≤ i := w.1.2.2.2.2.2.1.2
  subst e0 e1
  obtain ⟨r, s', e, n', cp', j1, j2, j3, j4⟩ := J_start (E := E) (A := A) (am := z2) (pin := z3) R (w.mono (u' := 2 * i + 2) (Nat.le_refl _) (by omega)) hi ht hc
  obtain ⟨wd, xt, -⟩ := R.term ht
  refine ⟨r, s', ?_, ?_⟩
  · rw [M_purchase_eq (n := n) hn0.1 hn1.1 R.2.1.2.2.2.2.2.1 hn0.2 hn1.2 (by omega) ht hc w2 w3]
    exact e
  · refine JP.sj (y := y) (X := fun kc ks Q => m_X11_purchase E (y 0 0) (nI t) (nI c) z2 z3 h kc ks Q) hb hi ⟨n', cp', j1, j2, j3, fun kc ks k1 k2 Q hQ => pre0 kc ks Q (s_isCard R (fun q => absurd q (ixN (by omega) hc rfl)) (fun j hj e => ⟨fun z => absurd z (by decide), fun _ => s_wi (fun _ => ⟨fun z => absurd z (by decide), fun _ => s_wi (fun _ => ⟨fun z => absurd z (by decide), fun _ => ?_⟩) (fun a => absurd w3 a)⟩) (fun a => absurd w2 a)⟩))⟩ (Nat.le_refl _)
    exact gR_of f0 rfl (nN_of (gR_of f1 rfl (nN_of (l1.isO (s_get l1 (by omega) ht (nN_of (isO_of xt (isO_of xt (cK_of kc ks (Nat.le_refl _) (Nat.le_refl _) (j4 kc ks k1 k2 Q hQ))))))))))
