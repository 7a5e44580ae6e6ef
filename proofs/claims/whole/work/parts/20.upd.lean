/-! each part of the relation, behind writes that aren't its own -/
section UPD
variable {E : Ev} {A S : Nat → Prop} {h h' : Hp} {y : Nat → Nat → Nat} {s : MS} {n cp : Nat → Nat}
theorem ly0 {j : Nat} (hj : j ≤ 18) : lyv n cp 0 j := Or.inl ⟨rfl, hj⟩
theorem ly1 {j : Nat} (hj : j < n 9) : lyv n cp 1 j := Or.inr (Or.inl ⟨Or.inl rfl, hj⟩)
theorem ly2 {j : Nat} (hj : j < n 9) : lyv n cp 2 j := Or.inr (Or.inl ⟨Or.inr rfl, hj⟩)
theorem ly3 {j : Nat} (hj : j < n 0) : lyv n cp 3 j := Or.inr (Or.inr (Or.inl ⟨Or.inl rfl, hj⟩))
theorem ly9 {j : Nat} (hj : j < n 0) : lyv n cp 9 j := Or.inr (Or.inr (Or.inl ⟨Or.inr rfl, hj⟩))
theorem ly5 {j : Nat} (hj : j < n 1) : lyv n cp 5 j := Or.inr (Or.inr (Or.inr (Or.inl ⟨Or.inl rfl, hj⟩)))
theorem ly7 {j : Nat} (hj : j < n 1) : lyv n cp 7 j := Or.inr (Or.inr (Or.inr (Or.inl ⟨Or.inr rfl, hj⟩)))
theorem ly10 {j : Nat} (hj : j < n 4) : lyv n cp 10 j := Or.inr (Or.inr (Or.inr (Or.inr (Or.inl ⟨Or.inl rfl, hj⟩))))
theorem ly11 {j : Nat} (hj : j < n 4) : lyv n cp 11 j := Or.inr (Or.inr (Or.inr (Or.inr (Or.inl ⟨Or.inr rfl, hj⟩))))
theorem ly15 {j : Nat} (h1 : 12 ≤ j) (h2 : j ≤ 18) (h3 : cp j ≠ 0) : lyv n cp 15 j := Or.inr (Or.inr (Or.inr (Or.inr (Or.inr (Or.inl ⟨rfl, h1, h2, h3⟩)))))
theorem ly8 {j : Nat} (h1 : j < n 1) (h3 : cp (20 + j) ≠ 0) : lyv n cp 8 j := Or.inr (Or.inr (Or.inr (Or.inr (Or.inr (Or.inr ⟨rfl, h1, h3⟩)))))
theorem AL.g2 {l d m c : Nat} {el : Nat → Nat} (a : AL E h l d m c el) (g : xg S h h') (ho : ∀ a, xo_at h a → xo_at h' a) (hl : ¬ S l) (hd : c ≠ 0 → ¬ S d) : AL E h' l d m c el := by
  obtain ⟨md, h1, h2, h3⟩ := a
  refine ⟨md, g.at h1 hl, h2, ?_⟩
  rcases h3 with h3 | ⟨h3, f, h4, h5, h6⟩
  · exact Or.inl h3
  · exact Or.inr ⟨h3, f, g.at h4 (hd (by omega)), h5, fun i y hi hy => ho _ (h6 i y hi hy)⟩
theorem RXf.g (F : RXf E h y s n) (g : xg S h h') (hs : ∀ j, j ≤ 18 → ¬ S (y 0 j)) : RXf E h' y s n := by
  obtain ⟨f0, f1, f2, f3, ⟨fw, f4, f4'⟩, ⟨sz, so, nu, f5⟩, ⟨g6, f6⟩, ⟨x7, y7, z7, f7⟩, ⟨x8, y8, z8, f8⟩, ⟨g9, f9⟩, ⟨g10, f10⟩, ⟨g11, f11, f11'⟩⟩ := F
  exact ⟨g.at f0 (hs 0 (by omega)), g.at f1 (hs 1 (by omega)), g.at f2 (hs 2 (by omega)), g.at f3 (hs 3 (by omega)), ⟨fw, g.at f4 (hs 10 (by omega)), f4'⟩, ⟨sz, so, nu, g.at f5 (hs 4 (by omega))⟩, ⟨g6, g.at f6 (hs 11 (by omega))⟩, ⟨x7, y7, z7, g.at f7 (hs 5 (by omega))⟩, ⟨x8, y8, z8, g.at f8 (hs 6 (by omega))⟩, ⟨g9, g.at f9 (hs 7 (by omega))⟩, ⟨g10, g.at f10 (hs 8 (by omega))⟩, ⟨g11, g.at f11 (hs 9 (by omega)), f11'⟩⟩
theorem RXl.g (L : RXl E h y s n cp) (g : xg S h h') (ho : ∀ a, xo_at h a → xo_at h' a) (hs : ∀ j, 12 ≤ j → j ≤ 18 → ¬ S (y 0 j)) (hd : ∀ j, 12 ≤ j → j ≤ 18 → cp j ≠ 0 → ¬ S (y 15 j)) (hb : ∀ t, t < n 1 → ¬ S (y 7 t)) (hbd : ∀ t, t < n 1 → cp (20 + t) ≠ 0 → ¬ S (y 8 t)) : RXl E h' y s n cp := by
  obtain ⟨l0, l1, l2, l3, l4, l5, l6, l7⟩ := L
  exact ⟨l0.g2 g ho (hs 12 (by omega) (by omega)) (hd 12 (by omega) (by omega)), l1.g2 g ho (hs 13 (by omega) (by omega)) (hd 13 (by omega) (by omega)), l2.g2 g ho (hs 14 (by omega) (by omega)) (hd 14 (by omega) (by omega)), l3.g2 g ho (hs 15 (by omega) (by omega)) (hd 15 (by omega) (by omega)), l4.g2 g ho (hs 16 (by omega) (by omega)) (hd 16 (by omega) (by omega)), l5.g2 g ho (hs 17 (by omega) (by omega)) (hd 17 (by omega) (by omega)), l6.g2 g ho (hs 18 (by omega) (by omega)) (hd 18 (by omega) (by omega)), ⟨fun t ht => (l7.1 t ht).g2 g ho (hb t ht) (hbd t ht), l7.2⟩⟩
theorem RXm.g (M : RXm E h y s n) (g : xg S h h') (h1 : ∀ j, j < n 9 → ¬ S (y 1 j)) (h2 : ∀ j, j < n 9 → ¬ S (y 2 j)) : RXm E h' y s n := by
  intro j hj
  obtain ⟨a, b, c, d, sz, f, m1, m2, m3⟩ := M j hj
  exact ⟨a, b, c, d, sz, f, g.at m1 (h1 j hj), g.at m2 (h2 j hj), m3⟩
theorem RXc.g (C : RXc h y s n) (g : xg S h h') (h3 : ∀ j, j < n 0 → ¬ S (y 3 j)) (h9 : ∀ j, j < n 0 → ¬ S (y 9 j)) (hP : ∀ a fs, xh_at h a (.inr (6, fs)) → ¬ S a) : RXc h' y s n := by
  intro j hj
  obtain ⟨c1, ⟨c, q, am, un, t, w, a, sl, c2, c3⟩, c4⟩ := C j hj
  exact ⟨g.at c1 (h3 j hj), ⟨c, q, am, un, t, w, a, sl, g.at c2 (hP _ _ c2), c3⟩, g.at c4 (h9 j hj)⟩
theorem RXt.g (T : RXt h y s n) (g : xg S h h') (h5 : ∀ j, j < n 1 → ¬ S (y 5 j)) (hP : ∀ a fs, xh_at h a (.inr (6, fs)) → ¬ S a) : RXt h' y s n := by
  intro j hj
  obtain ⟨wd, t1, t2, c, q, am, un, t, w, a, sl, t3, t4⟩ := T j hj
  exact ⟨wd, g.at t1 (h5 j hj), t2, c, q, am, un, t, w, a, sl, g.at t3 (hP _ _ t3), t4⟩
theorem RXs.g (Z : RXs E h y s n) (g : xg S h h') (h10 : ∀ j, j < n 4 → ¬ S (y 10 j)) (h11 : ∀ j, j < n 4 → ¬ S (y 11 j)) : RXs E h' y s n := by
  intro j hj
  obtain ⟨so, nu, len, f, s1, s2, s3⟩ := Z j hj
  exact ⟨so, nu, len, f, g.at s1 (h10 j hj), g.at s2 (h11 j hj), s3⟩
theorem RXp.g (P : RXp h y s n) (g : xg S h h') (hP : ∀ a fs, xh_at h a (.inr (6, fs)) → ¬ S a) : RXp h' y s n := by
  obtain ⟨p1, p2, p3, p4, p5⟩ := P
  refine ⟨fun j hj => ?_, fun j hj => ?_, fun j hj => ?_, fun j hj hz => ?_, p5⟩
  · obtain ⟨c, q, am, un, t, w, a, sl, e1, e2⟩ := p1 j hj
    exact ⟨c, q, am, un, t, w, a, sl, g.at e1 (hP _ _ e1), e2⟩
  · obtain ⟨c, q, am, un, t, w, a, sl, e1, e2⟩ := p2 j hj
    exact ⟨c, q, am, un, t, w, a, sl, g.at e1 (hP _ _ e1), e2⟩
  · obtain ⟨c, q, am, un, t, w, a, sl, e1, e2⟩ := p3 j hj
    exact ⟨c, q, am, un, t, w, a, sl, g.at e1 (hP _ _ e1), e2⟩
  · obtain ⟨c, q, am, un, t, w, a, sl, e1, e2⟩ := p4 j hj hz
    exact ⟨c, q, am, un, t, w, a, sl, g.at e1 (hP _ _ e1), e2⟩
theorem RXa.g (R : RXa A h y n cp) (g : xg S h h') : RXa A h' y n cp := ⟨fun a q => R.1 a (fun z => q (g.1 a z)), R.2⟩
/-- a write at one address b -/
theorem xo_set {b : Nat} {e e' : va_E} (hb : xh_at h b e) (hk : (∃ ci fs, 1 ≤ ci ∧ e = .inr (ci, fs)) → ∃ ci fs, 1 ≤ ci ∧ e' = .inr (ci, fs)) : ∀ a, xo_at h a → xo_at (xh_set h b e') a := by
  intro a ha
  obtain ⟨ci, fs, h1, h2⟩ := ha
  by_cases q : a = b
  · subst q
    obtain ⟨ci', fs', q1, q2⟩ := hk ⟨ci, fs, h1, hb.2.symm.trans h2.2⟩
    exact ⟨ci', fs', q1, by rw [q2]; exact h2.set⟩
  · exact ⟨ci, fs, h1, h2.ne q⟩
theorem nP_obj {b ci : Nat} {fs : List Value} (hb : xh_at h b (.inr (ci, fs))) (hc : ci ≠ 6) : ∀ a gs, xh_at h a (.inr (6, gs)) → ¬ a = b := by
  intro a gs ha q
  subst q
  have := ha.2.symm.trans hb.2
  injection this with q
  injection q with q
  exact hc q.symm
theorem nP_arr {b : Nat} {e : ClassId × vp_A} (hb : xh_at h b (.inl e)) : ∀ a gs, xh_at h a (.inr (6, gs)) → ¬ a = b := by
  intro a gs ha q
  subst q
  have := ha.2.symm.trans hb.2
  cases this
theorem RXa.ne (R : RXa A h y n cp) {k j k' j' : Nat} (h1 : lyv n cp k j) (h2 : lyv n cp k' j') (hn : k ≠ k' ∨ j ≠ j') : ¬ y k j = y k' j' := by
  intro q
  have := R.2.2.1 k j k' j' h1 h2 q
  omega
end UPD
