/-! a terminal takes whatever comes -/
section TOTERM
variable {E : Ev} {A S : Nat → Prop} {h h' : Hp} {y y' : Nat → Nat → Nat} {s s' : MS} {n cp n' cp' : Nat → Nat} {kd fs fr : Int32} {cf gf v : Nat → Int64} {i u t : Nat} {r : Int32}
theorem M_takeWord_01 (a : Int32) : M01 (M_takeWord s a) := by
  unfold M_takeWord
  dsimp only [lt1]
  repeat (first | exact M01.s1 | exact M01.s0 | exact M01.no | refine M01.it M01.no ?_ | refine M01.b (fun _ => ?_) | refine M01.it M01.s0 ?_ | refine M01.it ?_ M01.s0)
theorem JP.to' {α : Type} {i' u' : Nat} {X X' : Nat → Nat → (α → Hp → Prop) → Prop} {r : α} (j : JP E A h y n cp i u X r s') (h1 : i ≤ i') (h2 : u ≤ u') (hX : ∀ kc ks Q, X kc ks Q → X' kc ks Q) : JP E A h y n cp i' u' X' r s' := by
  obtain ⟨n', cp', j1, j2, j3, j4⟩ := j
  exact ⟨n', cp', j1.mono h1 h2, j2, j3, fun kc ks k1 k2 Q hQ => hX kc ks Q (j4 kc ks k1 k2 Q hQ)⟩
theorem J_toTerm {k : Nat} (hk : 1 ≤ k ∧ k < 12) (X : CX E A h y s n cp (nI k) fs fr cf gf) (w : W2 i u s n) (hi : i < 512) (hu : u < 2000) (ht : t < n 1) (hF : FD k s cf) :
    Mw (M_toTerminal s (nI t) (nI k)) (JP E A h y n cp (i + 1) (u + 1) (fun kc ks Q => m_X8_takes E (y 5 t) (some (y 0 5)) h kc ks Q)) := by
  have hn1 := X.1.2.1.2.1.2
  have cc : (nI t).toNatClampNeg = t := nI_clamp (by omega)
  obtain ⟨wd, x, -⟩ := X.1.term ht
  have hcK : ∀ {kc ks : Nat} {P : Nat → Nat → Nat → Nat → Prop}, P kc ks (kc - kc) (ks - ks) → cK kc ks P := fun hp => cK_of _ _ (Nat.le_refl _) (Nat.le_refl _) hp
  have kn : ∀ j, j < 12 → (nI k = nI j ↔ k = j) := fun j hj => nI_eq (by omega) (by omega)
  unfold M_toTerminal
  refine Mw.n (nI_in (by omega) (by omega)) ?_
  rw [cc]
  refine Mw.i (fun q => ?_) (fun q => Mw.r (JP.same X.1 (w.mono (by omega) (by omega)) (fun kc ks Q hQ => nN_of (gI_of X.2.1 rfl (gI_of x rfl ⟨fun z => absurd z.symm q, fun _ => hQ⟩)))))
  have h0 : ¬ s.2.2.1 41 t = 0 := by rw [q]; exact nI_ne0 (by omega) (by omega)
  have hall := (w.2.2.2.2.2.1 t ht h0).2.1
  rw [q] at hall
  have hk5 : k = 2 ∨ k = 4 ∨ k = 6 ∨ k = 8 ∨ k = 10 := by
    rcases hall with e | e | e | e | e
    · exact Or.inl ((kn 2 (by omega)).mp e)
    · exact Or.inr (Or.inl ((kn 4 (by omega)).mp e))
    · exact Or.inr (Or.inr (Or.inl ((kn 6 (by omega)).mp e)))
    · exact Or.inr (Or.inr (Or.inr (Or.inl ((kn 8 (by omega)).mp e))))
    · exact Or.inr (Or.inr (Or.inr (Or.inr ((kn 10 (by omega)).mp e))))
  rcases hk5 with rfl | rfl | rfl | rfl | rfl
  · obtain ⟨g1, p1⟩ := hF 1 (by omega) (by omega) (by decide +kernel)
    obtain ⟨g2, p2⟩ := hF 2 (by omega) (by omega) (by decide +kernel)
    obtain ⟨q1, hq1, e1⟩ := p1 (by decide +kernel)
    obtain ⟨q2, -, e2⟩ := p2 (by decide +kernel)
    refine Mw.y rfl (Mw.bv ((J_tcard X w hu ht q g1 g2 (hF 8 (by omega) (by omega) (by decide +kernel)).1 hq1 e1 e2).m (fun s' j => Mw.r (j.to' (by omega) (by omega) (fun kc ks Q hQ => ?_)))))
    exact nN_of (gI_of X.2.1 rfl (gI_of x rfl ⟨fun _ => gI_of X.2.1 rfl ⟨fun _ => isO_of x (hcK hQ), fun z => absurd rfl z⟩, fun z => absurd q.symm z⟩))
  · refine Mw.no (by decide) (Mw.y rfl (Mw.n (by decide) ?_))
    have g6 := (hF 6 (by omega) (by omega) (by decide +kernel)).1
    have g6' : s.2.2.2 17 ((6 : Int32)).toNatClampNeg = cf 6 := by rw [tC6]; exact g6
    rw [g6']
    have J := J_tpin X w ht q g6
    rw [if_neg (nI_in (by omega) (by omega))] at J
    refine Mw.m (P := JP E A h y n cp i u (fun kc ks Q => m_X8_takePinned E (y 5 t) (some (y 0 5)) h kc ks (fun h' => Q 1 h'))) ?_ (fun r s' j => j.to' (by omega) (by omega) (fun kc ks Q hQ => ?_))
    · by_cases z : lg_cmp (cf 6) 1 = 0
      · rw [if_pos z] at J ⊢
        refine Mw.n (by have := nI_in (c := t) (N := 8) (by omega) (by omega); rw [cc] at this; exact this) ?_
        exact J
      · rw [if_neg z] at J ⊢
        exact J
    · exact nN_of (gI_of X.2.1 rfl (gI_of x rfl ⟨fun _ => gI_of X.2.1 rfl ⟨fun z => absurd z (by decide), fun _ => ⟨fun _ => isO_of x (hcK hQ), fun z => absurd rfl z⟩⟩, fun z => absurd q.symm z⟩))
  · obtain ⟨g2, p2⟩ := hF 2 (by omega) (by omega) (by decide +kernel)
    obtain ⟨g7, p7⟩ := hF 7 (by omega) (by omega) (by decide +kernel)
    obtain ⟨q2, -, e2⟩ := p2 (by decide +kernel)
    obtain ⟨q7, hq7, e7⟩ := p7 (by decide +kernel)
    refine Mw.no (by decide) (Mw.no (by decide) (Mw.y rfl (Mw.bv ((J_tans X w hi hu ht q g2 (hF 6 (by omega) (by omega) (by decide +kernel)).1 g7 (hF 8 (by omega) (by omega) (by decide +kernel)).1 e2 hq7 e7).m (fun s' j => Mw.r (j.to' (Nat.le_refl _) (Nat.le_refl _) (fun kc ks Q hQ => ?_)))))))
    exact nN_of (gI_of X.2.1 rfl (gI_of x rfl ⟨fun _ => gI_of X.2.1 rfl ⟨fun z => absurd z (by decide), fun _ => ⟨fun z => absurd z (by decide), fun _ => ⟨fun _ => isO_of x (hcK hQ), fun z => absurd rfl z⟩⟩⟩, fun z => absurd q.symm z⟩))
  · obtain ⟨g10, p10⟩ := hF 10 (by omega) (by omega) (by decide +kernel)
    obtain ⟨q10, -, e10⟩ := p10 (by decide +kernel)
    refine Mw.no (by decide) (Mw.no (by decide) (Mw.no (by decide) (Mw.y rfl (Mw.b ?_))))
    obtain ⟨r1, s1, e, n', cp', j1, j2, j3, j4⟩ := J_tword X w hu ht q (hF 1 (by omega) (by omega) (by decide +kernel)).1 (hF 2 (by omega) (by omega) (by decide +kernel)).1 (hF 8 (by omega) (by omega) (by decide +kernel)).1 g10 (hF 11 (by omega) (by omega) (by decide +kernel)).1 e10
    have h01 := M_takeWord_01 (s := s) (nI t) r1 s1 e
    refine Mw.e e ?_
    dsimp only [lt1]
    refine Mw.y h01 (Mw.r ⟨n', cp', j1.mono (by omega) (by omega), j2, j3, fun kc ks k1 k2 Q hQ => ?_⟩)
    have := j4 kc ks k1 k2 (fun x35 h36 => (x35 = 0 ∨ x35 = 1) ∧ Q x35 h36) (fun h' y' R' hy g' => ⟨h01, hQ h' y' R' hy g'⟩)
    exact nN_of (gI_of X.2.1 rfl (gI_of x rfl ⟨fun _ => gI_of X.2.1 rfl ⟨fun z => absurd z (by decide), fun _ => ⟨fun z => absurd z (by decide), fun _ => ⟨fun z => absurd z (by decide), fun _ => ⟨fun _ => isO_of x (hcK this), fun z => absurd rfl z⟩⟩⟩⟩, fun z => absurd q.symm z⟩))
  · refine Mw.no (by decide) (Mw.no (by decide) (Mw.no (by decide) (Mw.no (by decide) ?_)))
    refine (J_tlast X w hu ht q (hF 7 (by omega) (by omega) (by decide +kernel)).1 (hF 8 (by omega) (by omega) (by decide +kernel)).1).m (fun r s' j => ?_)
    obtain ⟨j1, j4⟩ := j
    refine ⟨n, cp, j1.mono (by omega) (by omega), Nat.le_refl _, Nat.le_refl _, fun kc ks k1 k2 Q hQ => ?_⟩
    have := j4 0 0 Q hQ
    exact nN_of (gI_of X.2.1 rfl (gI_of x rfl ⟨fun _ => gI_of X.2.1 rfl ⟨fun z => absurd z (by decide), fun _ => ⟨fun z => absurd z (by decide), fun _ => ⟨fun z => absurd z (by decide), fun _ => ⟨fun z => absurd z (by decide), fun _ => ⟨fun _ => isO_of x this, fun z => absurd rfl z⟩⟩⟩⟩⟩, fun z => absurd q.symm z⟩))
end TOTERM
