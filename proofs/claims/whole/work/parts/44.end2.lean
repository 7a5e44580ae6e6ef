section END2
variable {E : Ev} {A : Nat → Prop} {h : Hp} {y : Nat → Nat → Nat} {s s' : MS} {n cp : Nat → Nat} {kd fs fr : Int32} {cf gf : Nat → Int64} {i u c : Nat} {r : Int32}
theorem lg1 {v : Int64} : lg_cmp v 1 = 0 ↔ v = 1 := lg_cmp_eq v 1
theorem J_end (X : CX E A h y s n cp 9 fs fr cf gf) (w : W2 i u s n) (hu : u < 2000) (hc : c < n 0) (m13 : s.1 13 = fs) (m14 : s.1 14 = fr) (hAd : Ad n fs fr) (hf8 : s.2.2.2 17 8 = cf 8) (hf10 : s.2.2.2 17 10 = cf 10) :
    Mw (M_toCard s (nI c) 9) (JP E A h y n cp i (u + 1) (fun kc ks Q => m_X1_takesEnd E (y 3 c) (some (y 0 5)) h kc ks Q)) := by
  have R := X.1
  have hn0 := R.2.1.1.2
  have hn4 : n 4 ≤ u := by have := w.1.2.2.2.2.1.2; omega
  have hn2 := R.2.1.2.2.1
  have cc : (nI c).toNatClampNeg = c := nI_clamp (by omega)
  have cb : (nI c < 0 ∨ 16 ≤ c) = False := ixF (by omega) (by omega)
  have x := X.card hc
  have wu : W2 i (u + 1) s n := w.mono (Nat.le_refl _) (by omega)
  unfold M_toCard
  refine Mw.no (by decide) ?_
  unfold M_toCard_L126
  refine Mw.no (by decide) ?_
  unfold M_toCard_L148
  refine Mw.no (by decide) ?_
  unfold M_toCard_L170
  refine Mw.y rfl ?_
  simp only [cc, cb, if_false]
  refine Mw.i (fun q => Mw.bv ?_) (fun q => Mw.r (JP.same R wu (fun kc ks Q hQ => gI_of x rfl ⟨fun z => absurd z q, fun _ => hQ⟩)))
  unfold M_finish
  dsimp only [lt1]
  simp only [cc, cb, if_false, tC8, tC10, tB8, tB10]
  refine Mv.begb (Mv.moreb (by simp) (Mv.moreb (by simp) (Mv.moreb (by simp) ?_)))
  have hl0 : rowl (rowS s [8, (nI c).toInt64, (s.2.2.1 27 c).toInt64, cf 10]) [8, (nI c).toInt64, (s.2.2.1 27 c).toInt64, cf 10] := rowS_l s _
  generalize hl : [8, (nI c).toInt64, (s.2.2.1 27 c).toInt64, cf 10] = l at hl0
  have hll : l.length = 4 := by rw [← hl]; rfl
  have hsA : (rowS s ([8] ++ [(nI c).toInt64] ++ [(s.2.2.1 27 c).toInt64] ++ [s.2.2.2 17 10])) = rowS s l := by rw [← hl, hf10]; rfl
  have hsB : (rowS s ([8] ++ [(nI c).toInt64] ++ [((rowS s ([8] ++ [(nI c).toInt64])).2.2.1 27 c).toInt64] ++ [(rowS s ([8] ++ [(nI c).toInt64] ++ [((rowS s ([8] ++ [(nI c).toInt64])).2.2.1 27 c).toInt64])).2.2.2 17 10])) = rowS s l := hsA
  rw [hsB]
  have Xr := X.eqv (s' := rowS s l) rfl
  have wr := w.eqv (s1 := rowS s l) rfl
  have e10 : (rowS s l).2.2.2 17 10 = cf 10 := hf10
  have e8 : (rowS s l).2.2.2 17 8 = cf 8 := hf8
  rw [e10, e8]
  have hno : ∀ (V : MS → Prop), Mv (M_finish_L99 (rowS s l) (nI c) 0) V → Mv (M_finish_L68 (rowS s l) (nI c)) V := by
    intro V hV
    unfold M_finish_L68 M_finish_L69
    refine Mv.y rfl ?_
    unfold M_finish_L90
    exact Mv.y rfl hV
  obtain ⟨-, -, -, -, -, ⟨z0, z1, z2, f5⟩, -⟩ := id X.1.2.2.1
  -- the class, up to the end of its look at the seal
  have pre : ∀ (kc ks : Nat) (Q : Int32 → Hp → Prop) (b : Int32), ((b = 1 ∧ cf 10 = 1 ∧ Good (rowS s l) (nI (256 * 2 + c)) l.length (fun i => l.getD i 0) (n 4) (cf 8)) ∨ (b = 0 ∧ ¬ (cf 10 = 1 ∧ Good (rowS s l) (nI (256 * 2 + c)) l.length (fun i => l.getD i 0) (n 4) (cf 8)))) → (∀ h1, CX E A h1 y (rowS s l) n cp 9 fs fr cf gf → xg A h h1 → br (b = 0) (m_X1_takesEnd_L23 E (y 3 c) (some (y 0 5)) 0 h1 kc ks Q) (m_X1_takesEnd_L23 E (y 3 c) (some (y 0 5)) 2 h1 kc ks Q)) → m_X1_takesEnd E (y 3 c) (some (y 0 5)) h kc ks Q := by
    intro kc ks Q b hb hn
    refine gI_of x rfl ⟨fun _ => isO_of x (nN_of (gR_of X.2.1 rfl (nN_of (aL_of X.2.2.1 (j := 10) rfl (by omega) (by omega) rfl ⟨fun q1 => ?_, fun q1 => ?_⟩)))), fun z => absurd q z⟩
    · have q1 := lg1.mp q1
      refine gR_of x rfl (nN_of (gR_of X.world rfl (gI_of x rfl (gI_of x rfl (nN_of (isO_of f5 (s_ofWordToCard X.1 (fun h1 S1 => ?_))))))))
      have X1 : CX E A h1 y s n cp 9 fs fr cf gf := X.ys S1.1 S1.2.1 ⟨by unfold rowP; omega, by unfold rowP; omega, by unfold rowP; omega⟩ (fun _ => rfl)
      have S2 := S1.re (s' := rowS s l) (l' := l) rfl (by rw [← hl, q1, i64_1])
      obtain ⟨-, -, -, -, -, ⟨z0, z1, z2, f5'⟩, -⟩ := id X1.1.2.2.1
      refine gR_of X1.2.1 rfl (nN_of (aL_of X1.2.2.1 (j := 8) rfl (by omega) (by omega) rfl (nN_of (isO_of f5' (s_isGood S2 (by omega) (by omega) (by omega) (fun hg => ?_) (fun hg => ?_))))))
      · refine ⟨fun z => absurd z (by decide), fun _ => ?_⟩
        rcases hb with ⟨rfl, _⟩ | ⟨rfl, hb⟩
        · exact hn h1 (X1.eqv rfl) (YS.a X.1.1 S1.2.1)
        · exact absurd ⟨q1, hg⟩ hb
      · refine ⟨fun _ => ?_, fun z => absurd rfl z⟩
        rcases hb with ⟨rfl, _, hb⟩ | ⟨rfl, hb⟩
        · exact absurd hb hg
        · exact hn h1 (X1.eqv rfl) (YS.a X.1.1 S1.2.1)
    · rcases hb with ⟨rfl, hb, _⟩ | ⟨rfl, hb⟩
      · exact absurd (lg1.mpr hb) q1
      · exact hn h Xr xg.rf
  have bad : ¬ (cf 10 = 1 ∧ Good (rowS s l) (nI (256 * 2 + c)) l.length (fun i => l.getD i 0) (n 4) (cf 8)) → Mv (M_finish_L68 (rowS s l) (nI c)) (fun s => Mw (some (1, s)) (JP E A h y n cp i (u + 1) (fun kc ks Q => m_X1_takesEnd E (y 3 c) (some (y 0 5)) h kc ks Q))) := by
    intro hb
    refine hno _ ((J_end43 (E := E) (A := A) (kd := 9) (cf := cf) (w0 := 0) Xr.1.2.1 wr hu hc q m13 m14 hAd).m (fun s' hJ => Mw.r ?_))
    obtain ⟨n', cp', j1, j2, j3, j4⟩ := hJ
    refine ⟨n', cp', j1, j2, j3, fun kc ks k1 k2 Q hQ => pre kc ks Q 0 (Or.inr ⟨rfl, hb⟩) (fun h1 X1 g1 => ⟨fun _ => ?_, fun z => absurd rfl z⟩)⟩
    refine ⟨fun z => absurd z (by decide), fun _ => j4 h1 y gf X1 kc ks (by omega) (by omega) Q (fun h' y' R' hy g' => hQ h' y' R' hy (g1.tr g'))⟩
  refine Mv.i (fun q1 => Mv.b ?_) (fun q1 => bad (fun z => q1 (lg1.mpr z.1)))
  have q1 := lg1.mp q1
  obtain ⟨hy1, hy0⟩ := M_good_row hl0 (by omega) wr.1.2.2.2.2.1.1 (by omega) wr.2.2.2.2.2.2.2.1 2 (nI c).toInt64 (cf 8)
  rw [show (256 : Int32) * 2 + (nI c).toInt64.toInt32 = nI (256 * 2 + c) from keyc 2 c] at hy1 hy0
  by_cases hg : Good (rowS s l) (nI (256 * 2 + c)) l.length (fun i => l.getD i 0) (n 4) (cf 8)
  rotate_left
  · exact Mw.e (hy0 hg) (Mv.y rfl (bad (fun z => hg z.2)))
  refine Mw.e (hy1 hg) (Mv.no (show ¬ (1 : Int32) = 0 by decide) ?_)
  dsimp only
  unfold M_finish_L69
  refine Mv.no (by decide) (Mv.b ?_)
  obtain ⟨r1, s1, e1, hW⟩ := M_writes_spec (s := rowS s l) (c := c) (by omega) (wr.2.2.2.2.2.2.1 c hc)
  refine Mw.e e1 ?_
  have w1 := hW.w wr hc
  dsimp only [lt1]
  by_cases z : r1 = 0
  · subst z
    refine Mv.y rfl (Mv.r (Mw.r ⟨n, cp, w1.mono (Nat.le_refl _) (by omega), Nat.le_refl _, Nat.le_refl _, fun kc ks k1 k2 Q hQ => ?_⟩))
    refine pre kc ks Q 1 (Or.inl ⟨rfl, q1, hg⟩) (fun h1 X1 g1 => ⟨fun z => absurd z (by decide), fun _ => ⟨fun _ => ?_, fun z => absurd rfl z⟩⟩)
    have x1 := X1.card hc
    refine isO_of x1 (cK_of 1 8 (by omega) (by omega) (s_lose X1 hc hW ⟨by omega, by omega⟩ (fun h' p X' gA => ?_)))
    exact ⟨fun z => absurd z (by decide), fun _ => hQ h' _ X'.1 rfl (g1.tr gA)⟩
  have hr : (if r1 = 0 then (1 : Int32) else 0) = 0 := if_neg z
  refine Mv.no z ?_
  simp only [cc, cb, if_false]
  have m1 : s1.1 13 = fs ∧ s1.1 14 = fr ∧ s1.2.2.1 30 c = 2 := by
    rcases hW with ⟨_, hr0, rfl⟩ | ⟨_, _, rfl⟩ | ⟨p, _, _, _, rfl⟩
    · exact absurd hr0 z
    · exact ⟨m13, m14, q⟩
    · exact ⟨m13, m14, q⟩
  obtain ⟨m13', m14', m30⟩ := m1
  have w2 : W2 i u (mA s1 29 c 0) n := w1.cd hc rfl rfl (fun j hj => by simp [cdv, mA, va_up, upd, hj]) (by simpa [mA, va_up, upd] using w1.2.2.2.2.2.2.1 c hc)
  unfold M_finish_L90
  refine Mv.no (by decide) ?_
  have Rn1 : RXn (mA s1 29 c 0) n cp := by
    have h1 := R.2.1
    rcases hW with ⟨_, _, rfl⟩ | ⟨_, _, rfl⟩ | ⟨p, _, _, _, rfl⟩ <;> exact h1
  refine (J_end43 (E := E) (A := A) (kd := 9) (cf := cf) (w0 := 2) Rn1 w2 hu hc m30 m13' m14' hAd).m (fun s' hJ => Mw.r ?_)
  obtain ⟨n', cp', j1, j2, j3, j4⟩ := hJ
  refine ⟨n', cp', j1, j2, j3, fun kc ks k1 k2 Q hQ => pre kc ks Q 1 (Or.inl ⟨rfl, q1, hg⟩) (fun h1 X1 g1 => ⟨fun z => absurd z (by decide), fun _ => ⟨fun _ => ?_, fun z => absurd rfl z⟩⟩)⟩
  have x1 := X1.card hc
  refine isO_of x1 (cK_of 1 8 (by omega) (by omega) (s_lose X1 hc hW ⟨by omega, by omega⟩ (fun h2 p2 X2 g2 => ?_)))
  rw [hr]
  refine ⟨fun _ => ?_, fun z => absurd rfl z⟩
  have x2 := X2.card hc
  obtain ⟨a1, a2, a3, a4, a5, a6, a7, a8, ap, aq⟩ := X2.asked hc
  have npc : up2 y 4 c p2 4 c ≠ y 3 c := nP_obj x2 (by decide) _ _ ap
  refine pV_of x2 (by show 7 < 12; decide) ?_
  obtain ⟨X3, g3⟩ := X2.cd (s' := mA s1 29 c 0) (p := up2 y 4 c p2 4 c) (x22 := s1.2.2.1 22 c) (x23 := s1.2.2.2 23 c) (x24 := s1.2.2.1 24 c) (x27 := s1.2.2.1 27 c) (x28 := s1.2.2.1 28 c) (x29 := 0) (x30 := s1.2.2.1 30 c) (x35 := s1.2.2.1 35 c) (x31 := s1.2.2.1 31 c) (x32 := s1.2.2.2 32 c) (x33 := s1.2.2.2 33 c) (x34 := s1.2.2.2 34 c) (x25 := s1.2.2.2 25 c) (x26 := s1.2.2.1 26 c) hc (xg.set (S := fun a => a = y 3 c) rfl) (Or.inl rfl) (by simp [cdv, mA, va_up, upd]) x2.set ⟨_, _, _, _, _, _, _, _, ap.ne npc, aq⟩ rfl rfl (fun j hj => by simp [cdv, mA, va_up, upd, hj]) rfl rfl
  have := j4 _ _ gf X3 (kc - 1) (ks - 8) (by omega) (by omega) Q (fun h' y' R' hy g' => hQ h' y' R' hy (g1.tr (g2.tr (g3.tr g'))))
  exact this
end END2
