section TANS3
variable {E : Ev} {A S : Nat → Prop} {h h' : Hp} {y y' : Nat → Nat → Nat} {s s' : MS} {n cp n' cp' : Nat → Nat} {kd fs fr : Int32} {cf gf v : Nat → Int64} {i u t : Nat} {r : Int32}
theorem batS_vis {s1 : MS} {m : Nat} (e : vis s1 = vis s) (v0 v1 v2 v3 v4 v5 v6 : Int64) : vis (batS s1 m t v0 v1 v2 v3 v4 v5 v6) = vis (batS s m t v0 v1 v2 v3 v4 v5 v6) := by
  have h1 : ∀ z : MS, vis (batS z m t v0 v1 v2 v3 v4 v5 v6) = vis (batS (unvis (vis z)) m t v0 v1 v2 v3 v4 v5 v6) := fun _ => rfl
  rw [h1 s1, h1 s, e]
theorem cpB10 (R : RXo E A h y s n cp) (ht : t < n 1) : cp (20 + t) = 0 ∨ 10 ≤ cp (20 + t) := by
  obtain ⟨md, a1, a2, a3⟩ := R.2.2.2.1.2.2.2.2.2.2.2.1 t ht
  rcases a3 with ⟨z, _⟩ | ⟨z, _⟩
  · exact Or.inl z
  · exact Or.inr z
theorem bl_le {m : Nat} : (bl s m t).length ≤ m := by
  unfold bl
  have := List.length_filter_le (fun b => decide (s.2.2.1 54 b = nI t ∧ s.2.2.1 55 b = 0)) (List.range m)
  rwa [List.length_range] at this
theorem J_tans {q2 q7 : Nat} (X : CX E A h y s n cp kd fs fr cf gf) (w : W2 i u s n) (hi : i < 512) (hu : u < 2000) (ht : t < n 1) (h41 : s.2.2.1 41 t = 6) (f2 : s.2.2.2 17 2 = cf 2) (f6 : s.2.2.2 17 6 = cf 6) (f7 : s.2.2.2 17 7 = cf 7) (f8 : s.2.2.2 17 8 = cf 8) (e2 : cf 2 = (nI q2).toInt64) (hq7 : q7 < 65536) (e7 : cf 7 = (nI q7).toInt64) :
    Mv (M_takeAnswer s (nI t)) (fun s' => JP E A h y n cp (i + 1) (u + 1) (fun kc ks Q => m_X8_takeAnswer E (y 5 t) (some (y 0 5)) h kc ks (fun h' => Q 1 h')) (1 : Int32) s') := by
  have R := X.1
  have hn0 := R.2.1.1.2
  have hn1 := R.2.1.2.1.2
  have hn4 : n 4 ≤ u := by have := w.1.2.2.2.2.1.2; omega
  have hn7 : n 7 ≤ i := w.1.2.2.2.2.2.2.2.1.2
  have cc : (nI t).toNatClampNeg = t := nI_clamp (by omega)
  have cb : (nI t < 0 ∨ 8 ≤ t) = False := ixF (by omega) (by omega)
  have z2 : (cf 2).toInt32 = nI q2 := by rw [e2, Int32.toInt32_toInt64]
  have f7' : s.2.2.2 17 ((7 : Int32)).toNatClampNeg = cf 7 := by rw [tC7]; exact f7
  have f2' : s.2.2.2 17 ((2 : Int32)).toNatClampNeg = cf 2 := by rw [tC2]; exact f2
  have f8' : s.2.2.2 17 ((8 : Int32)).toNatClampNeg = cf 8 := by rw [tC8]; exact f8
  obtain ⟨wd, x, xp1, c0, kk, am, un, tt, w0, a0, sl, ap, xp2, xp3, xp4, -⟩ := R.term ht
  obtain ⟨rfl, rfl, rfl⟩ := xp2 (by rw [h41]; decide)
  have hc0 := xp3 (Or.inr (Or.inl h41))
  have hw0 := xp4 (Or.inl h41)
  have l0 : lg_cmp (cf 7) 0 = 0 ↔ q7 = 0 := by rw [lg_t e7 (b := 0) i64_0.symm]; exact nI_eq (b := 0) (by omega) (by omega)
  have l1 : lg_cmp (cf 7) 1 = 0 ↔ q7 = 1 := by rw [lg_t e7 (b := 1) i64_1.symm]; exact nI_eq (b := 1) (by omega) (by omega)
  have l2 : lg_cmp (cf 7) 2 ≤ 0 ↔ q7 ≤ 2 := by
    rw [e7, ← i64_2]
    exact lg_le_n (b := 2) (by omega) (by omega)
  have j1 : nI q7 = 1 ↔ q7 = 1 := nI_eq (b := 1) (by omega) (by omega)
  have j2 : nI q7 = 2 ↔ q7 = 2 := nI_eq (b := 2) (by omega) (by omega)
  unfold M_takeAnswer
  refine Mv.n (by decide) ?_
  rw [f7']
  have bad : ∀ sx, vis sx = vis s → ¬ q7 = 1 → ¬ q7 = 2 → Mv ((M_end sx (nI t) 3).bind fun s83 => some s83) (fun s' => JP E A h y n cp (i + 1) (u + 1) (fun kc ks Q => m_X8_takeAnswer E (y 5 t) (some (y 0 5)) h kc ks (fun h' => Q 1 h')) (1 : Int32) s') := by
    intro sx ex n1 n2
    refine tend_J (kd := kd) (fs := fs) (fr := fr) (cf := cf) (gf := gf) R w ht ex (fun kc ks Q hQ => s_ans3 X ht h41 ap hw0 e2 e7 (fun h3 X3 ap3 g3 => ⟨fun z => absurd (j1.mp z) n1, fun _ => ?_⟩))
    obtain ⟨wd3, x3, -⟩ := X3.1.term ht
    exact gR_of x3 rfl (nN_of (gI_of ap3 rfl ⟨fun z => absurd (j2.mp z) n2, fun _ => hQ h3 X3 g3⟩))
  refine Mv.i (fun q => bad s rfl (by have := l0.mp q; omega) (by have := l0.mp q; omega)) (fun q => Mv.n (by decide) ?_)
  have q' : ¬ q7 = 0 := fun z => q (l0.mpr z)
  refine Mv.i (fun qq => Mv.n (by decide) ?_) (fun qq => bad s rfl (fun z => qq (l2.mpr (by omega))) (fun z => qq (l2.mpr (by omega))))
  have qq' := l2.mp qq
  refine Mv.i (fun q1 => ?_) (fun q1 => ?_)
  · have := l1.mp q1
    subst this
    refine Mv.n (by decide) (Mv.n (by decide) ?_)
    rw [f2', f8', M_tans_host (by omega) z2 f2]
    exact J_tans_h X w hu ht h41 f2 e2 e7
  have q1' : ¬ q7 = 1 := fun z => q1 (l1.mpr z)
  have : q7 = 2 := by omega
  subst this
  clear bad
  obtain ⟨h43, -, h47⟩ := w.2.2.2.2.2.1 t ht (by rw [h41]; decide)
  obtain ⟨c, hc, hcc⟩ := h47 (by rw [h41]; decide)
  have c0c : c0 = nI c := hc0.trans hcc
  unfold M_takeAnswer_L231
  dsimp only [lt1]
  simp only [cc, cb, if_false, tC2, tC6, tC8, tB2, tB6, tB8]
  refine Mv.begb (Mv.moreb (by simp) (Mv.moreb (by simp) (Mv.moreb (by simp) (Mv.moreb (by simp) (Mv.moreb (by simp) (Mv.moreb (by simp) ?_))))))
  simp only [rowS_17, (rowS_o _ _).1, (rowS_o _ _).2.1, rowS_A, f2, f6, f8, List.cons_append, List.nil_append]
  have hl0 : rowl (rowS s [6, 2, s.2.2.2 44 t, s.2.2.2 45 t, (nI t).toInt64, cf 2, (s.2.2.1 49 t).toInt64]) [6, 2, s.2.2.2 44 t, s.2.2.2 45 t, (nI t).toInt64, cf 2, (s.2.2.1 49 t).toInt64] := rowS_l s _
  generalize hl : [6, 2, s.2.2.2 44 t, s.2.2.2 45 t, (nI t).toInt64, cf 2, (s.2.2.1 49 t).toInt64] = l at hl0
  have hll : l.length = 7 := by rw [← hl]; rfl
  have wr := w.eqv (s1 := rowS s l) (vis_row s l)
  have cls : ∀ (kc ks : Nat) (Q : Hp → Prop) (b : Int32), ((b = 1 ∧ nI q2 = s.2.2.1 48 t ∧ cf 6 = (s.2.2.1 49 t).toInt64 ∧ Good (rowS s l) (nI (256 * 0 + c)) l.length (fun i => l.getD i 0) (n 4) (cf 8)) ∨ (b = 0 ∧ ¬ (nI q2 = s.2.2.1 48 t ∧ cf 6 = (s.2.2.1 49 t).toInt64 ∧ Good (rowS s l) (nI (256 * 0 + c)) l.length (fun i => l.getD i 0) (n 4) (cf 8)))) → (∀ h4, CX E A h4 y s n cp kd fs fr cf gf → PAY h4 (y 6 t) c0 (nI q2) (s.2.2.2 44 t) (s.2.2.2 45 t) (nI t) w0 (nI 2) (cf 8) → xg A h h4 → (b = 0 → m_X8_takeAnswer_L109 E (y 5 t) h4 kc ks Q) ∧ (¬ b = 0 → gR h4 (y 5 t) 9 4 fun r45 => gR h4 (y 5 t) 9 9 fun r47 => nN r45 fun a55 => isO h4 a55 0 (cK kc ks fun mc49 ms50 kc51 ks52 => m_Jx4a65c_add_9ea2d E a55 r47 h4 mc49 ms50 (fun x53 h54 => isO h54 (y 5 t) 9 (m_X8_end E (y 5 t) 2 h54 0 0 (fun h58 => Q h58)))))) → m_X8_takeAnswer E (y 5 t) (some (y 0 5)) h kc ks Q := by
    intro kc ks Q b hb hn
    refine s_ans3 (q7 := 2) X ht h41 ap hw0 e2 e7 (fun h3 X3 ap3 g3 => ⟨fun z => absurd z (by decide), fun _ => ?_⟩)
    obtain ⟨wd3, x3, -⟩ := X3.1.term ht
    refine gR_of x3 rfl (nN_of (gI_of ap3 rfl ⟨fun _ => isO_of x3 ?_, fun z => absurd rfl z⟩))
    refine gR_of x3 rfl (nN_of (gI_of ap3 rfl (gI_of x3 rfl ⟨fun a1 => ?_, fun a1 => ?_⟩)))
    rotate_left
    · rcases hb with ⟨_, hb, _⟩ | ⟨rfl, _⟩
      · exact absurd hb a1
      · exact hn h3 X3 ap3 g3
    refine nN_of (gR_of X3.2.1 rfl (nN_of (aL_of X3.2.2.1 (j := 6) rfl (by omega) (by omega) rfl (gR_of x3 rfl (nN_of (gI_of ap3 rfl ⟨fun a2 => ?_, fun a2 => ?_⟩))))))
    rotate_left
    · rcases hb with ⟨_, _, hb, _⟩ | ⟨rfl, _⟩
      · exact absurd (lg_eq.mpr (by rw [hw0]; exact hb)) a2
      · exact hn h3 X3 ap3 g3
    have a2' : cf 6 = (s.2.2.1 49 t).toInt64 := by rw [← hw0]; exact lg_eq.mp a2
    obtain ⟨-, -, -, -, -, ⟨u0, u1, u2, f5⟩, -⟩ := id X3.1.2.2.1
    have ap3' := ap3
    rw [c0c] at ap3'
    refine gR_of x3 rfl (nN_of (gR_of X3.world rfl (gR_of x3 rfl (nN_of (isO_of f5 (s_ofAnswer X3.1 ap3' (fun h4 S4 => ?_)))))))
    have X4 : CX E A h4 y s n cp kd fs fr cf gf := X3.ys S4.1 S4.2.1 ⟨by unfold rowP; omega, by unfold rowP; omega, by unfold rowP; omega⟩ (fun _ => rfl)
    have ap4 : PAY h4 (y 6 t) c0 (nI q2) (s.2.2.2 44 t) (s.2.2.2 45 t) (nI t) w0 (nI 2) (cf 8) := X3.1.pay S4.2.1 ap3
    have S5 := S4.re (s' := rowS s l) (l' := l) (vis_row s l) (by rw [← hl, e2, hw0]; rfl)
    obtain ⟨-, -, -, -, -, ⟨v0, v1, v2, f5'⟩, -⟩ := id X4.1.2.2.1
    obtain ⟨wd4, x4, -⟩ := X4.1.term ht
    refine gR_of x4 rfl (nN_of (gL_of ap4 rfl (nN_of (isO_of f5' (s_isGood S5 (by omega) (by omega) (by omega) (fun hg => ?_) (fun hg => ?_))))))
    · rcases hb with ⟨rfl, _⟩ | ⟨rfl, hb⟩
      · exact ⟨fun z => absurd z (by decide), fun _ => hn h4 X4 ap4 (g3.tr (YS.a X3.1.1 S4.2.1))⟩
      · exact absurd ⟨a1, a2', hg⟩ hb
    · rcases hb with ⟨rfl, _, _, hb⟩ | ⟨rfl, _⟩
      · exact absurd hb hg
      · exact ⟨fun _ => hn h4 X4 ap4 (g3.tr (YS.a X3.1.1 S4.2.1)), fun z => absurd rfl z⟩
  have bad : ¬ (nI q2 = s.2.2.1 48 t ∧ cf 6 = (s.2.2.1 49 t).toInt64 ∧ Good (rowS s l) (nI (256 * 0 + c)) l.length (fun i => l.getD i 0) (n 4) (cf 8)) → Mv ((M_end (rowS s l) (nI t) 3).bind fun s87 => some s87) (fun s' => JP E A h y n cp (i + 1) (u + 1) (fun kc ks Q => m_X8_takeAnswer E (y 5 t) (some (y 0 5)) h kc ks (fun h' => Q 1 h')) (1 : Int32) s') := by
    intro hb
    exact tend_J (kd := kd) (fs := fs) (fr := fr) (cf := cf) (gf := gf) R w ht (vis_row s l) (fun kc ks Q hQ => cls kc ks _ 0 (Or.inr ⟨rfl, hb⟩) (fun h4 X4 ap4 g4 => ⟨fun _ => hQ h4 X4 g4, fun z => absurd rfl z⟩))
  have l48 : lg_cmp (cf 2) (s.2.2.1 48 t).toInt64 = 0 ↔ nI q2 = s.2.2.1 48 t := lg_t e2 rfl
  refine Mv.i (fun a1 => ?_) (fun a1 => bad (fun z => a1 (l48.mpr z.1)))
  refine Mv.i (fun a2 => Mv.b ?_) (fun a2 => bad (fun z => a2 (lg_eq.mpr z.2.1)))
  obtain ⟨hy1, hy0⟩ := M_good_row hl0 (by omega) wr.1.2.2.2.2.1.1 (by omega) wr.2.2.2.2.2.2.2.1 0 (s.2.2.1 47 t).toInt64 (cf 8)
  rw [show (256 : Int32) * 0 + (s.2.2.1 47 t).toInt64.toInt32 = nI (256 * 0 + c) from by rw [hcc]; exact keyc 0 c] at hy1 hy0
  by_cases hg : Good (rowS s l) (nI (256 * 0 + c)) l.length (fun i => l.getD i 0) (n 4) (cf 8)
  rotate_left
  · exact Mw.e (hy0 hg) (Mv.y rfl (bad (fun z => hg z.2.2)))
  refine Mw.e (hy1 hg) (Mv.no (show ¬ (1 : Int32) = 0 by decide) ?_)
  dsimp only
  rw [rowS_17, f2, f8, M_fill_eq _ (by omega), Option.bind_some, bat_eq _ t (n 7) (by rw [fillS_I]; exact R.2.1.2.2.2.2.2.2.2.1) (by omega), M_end_eq _ (by omega)]
  obtain ⟨o1, o2, o3, o4, o5, o6, o7⟩ := fillS_v (s := rowS s l) (t := t) (cf 2) (cf 8)
  rw [o1, o2, o3, o4, o5, o6, o7, (rowS_o _ _).1, (rowS_o _ _).2.1, rowS_A]
  have hv : vis (fillS (rowS s l) t (cf 2) (cf 8)) = vis s := (fillS_vis _ _).trans (vis_row s l)
  have hgF := grow_FB (cp := cp) (n := n) (t := t) (m := (bl s (n 7) t).length) (by omega) R.2.1.2.2.2.2.2.2.2.2.2.2 (by have := bl_le (s := s) (t := t) (m := n 7); omega) (cpB10 R ht)
  have wB := ((w.bat (t := t) (v0 := (s.2.2.1 47 t).toInt64) (v1 := cf 2) (v2 := s.2.2.2 44 t) (v3 := s.2.2.2 45 t) (v4 := (nI t).toInt64) (v5 := (s.2.2.1 49 t).toInt64) (v6 := cf 8) ht).eqv (batS_vis hv _ _ _ _ _ _ _)).tend (t := t) ht 2
  refine Mv.r ⟨va_up n 7 (n 7 + 1), va_up cp (20 + t) (alC (bl s (n 7) t).length (cp (20 + t))), wB, Nat.le_refl _, ?_, fun kc ks k1 k2 Q hQ => cls kc ks _ 1 (Or.inl ⟨rfl, l48.mp a1, lg_eq.mp a2, hg⟩) (fun h4 X4 ap4 g4 => ⟨fun z => absurd z (by decide), fun _ => ?_⟩)⟩
  · have := hgF.1
    show Fs n (va_up cp (20 + t) (alC (bl s (n 7) t).length (cp (20 + t)))) ≤ Fs n cp
    omega
  have k2' : 200 + Fs n cp ≤ ks + Fs n (va_up cp (20 + t) (alC (bl s (n 7) t).length (cp (20 + t)))) := k2
  have k1' : 6 + Fc n ≤ kc + Fc n := k1
  obtain ⟨wd4, x4, -⟩ := X4.1.term ht
  have al := X4.1.2.2.2.1.2.2.2.2.2.2.2.1 t ht
  have hFg := hgF.1
  refine gR_of x4 rfl (gR_of x4 rfl (nN_of (al.isO (cK_of 1 (if (bl s (n 7) t).length = cp (20 + t) then al_cap (cp (20 + t)) else 0) (by omega) (by omega) (s_add al ⟨6, _, by omega, ap4⟩ (by have := R.2.1.2.2.2.2.2.2.2.2.2.2 (20 + t); omega) (fun z => ⟨Nat.le_refl _, by rw [if_pos z]; exact Nat.le_refl _⟩) (fun h5 d' c' al5 ga hd => ?_))))))
  have x5 := ga.at x4 (alB.no X4.1 ht (ly5 ht) (by omega) (by omega))
  refine isO_of x5 (pV_of x5 (by show 5 < 14; decide) (pV_of x5.set (by show 12 < 14; decide) ?_))
  have XE := X4.tend (o := 2) ht x4
  have n6 : y 6 t ≠ y 5 t := nP_obj x4 (by decide) _ _ ap4
  have gS : xg (alS (y 7 t) (y 8 t) (cp (20 + t))) _ _ := (ga.set2 (b := y 5 t) (e := .inr (9, termL y t (y 6 t) (s.2.2.2 37 t) (s.2.2.2 38 t) 2 (s.2.2.2 39 t) (s.2.2.1 43 t) (s.2.2.1 46 t) (s.2.2.1 48 t) (s.2.2.1 51 t) (s.2.2.1 41 t) wd4))).set2 (b := y 5 t) (e := .inr (9, termL y t (y 6 t) (s.2.2.2 37 t) (s.2.2.2 38 t) 2 (s.2.2.2 39 t) (s.2.2.1 43 t) (s.2.2.1 46 t) (s.2.2.1 48 t) (s.2.2.1 51 t) 0 wd4))
  have e41 : (mA (mA s 40 t 2) 41 t 0).2.2.1 41 t = 0 := by simp [mA, va_up, upd]
  have blE : bl (mA (mA s 40 t 2) 41 t 0) (n 7) t = bl s (n 7) t := rfl
  have ec : c' = alC (bl s (n 7) t).length (cp (20 + t)) := by
    unfold alC
    rcases hd with ⟨w1, w2, w3⟩ | ⟨w1, w2, w3⟩
    · rw [if_neg (by omega)]; exact w3
    · rw [if_pos w1]; exact w3
  have d5 : d' ≠ y 5 t := by
    rcases hd with ⟨w1, w2, w3⟩ | ⟨w1, w2, w3⟩
    · rw [w2]; exact X4.1.1.ne (ly8 ht (by omega)) (ly5 ht) (by omega)
    · exact fun z => w2 (by rw [z]; exact x4.1)
  have n75 : y 7 t ≠ y 5 t := X4.1.1.ne (ly7 ht) (ly5 ht) (by omega)
  have ho5 : ∀ {hh : Hp} {e0 e1 : List Value}, xh_at hh (y 5 t) (.inr (9, e0)) → ∀ a, xo_at hh a → xo_at (xh_set hh (y 5 t) (.inr (9, e1))) a := fun hx => xo_set hx (fun _ => ⟨9, _, by omega, rfl⟩)
  have al6 : AL E _ (y 7 t) d' ((bl s (n 7) t).length + 1) c' (va_up (fun j => y 16 ((bl s (n 7) t).getD j 0)) (bl s (n 7) t).length (y 6 t)) := (al5.g2 (xg.set (S := fun a => a = y 5 t) (a := y 5 t) (e := .inr (9, termL y t (y 6 t) (s.2.2.2 37 t) (s.2.2.2 38 t) 2 (s.2.2.2 39 t) (s.2.2.1 43 t) (s.2.2.1 46 t) (s.2.2.1 48 t) (s.2.2.1 51 t) (s.2.2.1 41 t) wd4)) rfl) (ho5 x5) n75 (fun _ => d5)).g2 (xg.set (S := fun a => a = y 5 t) (a := y 5 t) (e := .inr (9, termL y t (y 6 t) (s.2.2.2 37 t) (s.2.2.2 38 t) 2 (s.2.2.2 39 t) (s.2.2.1 43 t) (s.2.2.1 46 t) (s.2.2.1 48 t) (s.2.2.1 51 t) 0 wd4)) rfl) (ho5 x5.set) n75 (fun _ => d5)
  obtain ⟨R6, g6⟩ := XE.1.bat (d := d') (cc := c') (c := c0) (k := nI q2) (w := w0) (a := nI 2) (am := s.2.2.2 44 t) (un := s.2.2.2 45 t) (sl := cf 8) ht e41 (by omega) ((ap4.ne n6).ne n6) gS al6 hd
  rw [ec, hc0, hw0, ← e2] at R6
  refine hQ _ _ (R6.eqv ((vis_tend (batS_vis hv _ _ _ _ _ _ _) 2).trans (vis_batc s _ _ _ _ _ _ _ 2))) rfl ?_
  have gT : xg A h4 (xh_set (xh_set h4 (y 5 t) (.inr (9, termL y t (y 6 t) (s.2.2.2 37 t) (s.2.2.2 38 t) 2 (s.2.2.2 39 t) (s.2.2.1 43 t) (s.2.2.1 46 t) (s.2.2.1 48 t) (s.2.2.1 51 t) (s.2.2.1 41 t) wd4))) (y 5 t) (.inr (9, termL y t (y 6 t) (s.2.2.2 37 t) (s.2.2.2 38 t) 2 (s.2.2.2 39 t) (s.2.2.1 43 t) (s.2.2.1 46 t) (s.2.2.1 48 t) (s.2.2.1 51 t) 0 wd4))) := (xg.set (X4.1.1.2.1 5 t (ly5 ht))).tr (xg.set (X4.1.1.2.1 5 t (ly5 ht)))
  exact g4.tr (gT.tr g6)
end TANS3
