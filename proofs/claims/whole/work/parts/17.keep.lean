/-- the class's own cells are as they were -/
def xk (A : Nat → Prop) (h h' : Hp) : Prop := (∀ a, a ∈ h.1 → a ∈ h'.1) ∧ ∀ a, a ∈ h.1 → A a → h'.2 a = h.2 a
theorem xk.at {A : Nat → Prop} {h h' : Hp} {a : Nat} {e : va_E} (k : xk A h h') (ha : xh_at h a e) (hA : A a) : xh_at h' a e := ⟨k.1 a ha.1, (k.2 a ha.1 hA).trans ha.2⟩
theorem AL.k {A : Nat → Prop} {E : Ev} {h h' : Hp} {l d n c : Nat} {el : Nat → Nat} (a : AL E h l d n c el) (k : xk A h h') (hl : A l) (hd : c ≠ 0 → A d) (he : ∀ i, i < n → A (el i)) : AL E h' l d n c el := by
  obtain ⟨md, h1, h2, h3⟩ := a
  refine ⟨md, k.at h1 hl, h2, ?_⟩
  rcases h3 with h3 | ⟨h3, f, h4, h5, h6⟩
  · exact Or.inl h3
  · refine Or.inr ⟨h3, f, k.at h4 (hd (by omega)), h5, fun i y hi hy => ?_⟩
    obtain ⟨ci, fs, q1, q2⟩ := h6 i y hi hy
    have := h5 i hi
    rw [hy] at this
    cases this
    exact ⟨ci, fs, q1, k.at q2 (he i hi)⟩
theorem bl_lt {s : MS} {nb t j : Nat} (h : j < (bl s nb t).length) : (bl s nb t).getD j 0 < nb := by
  have hm : (bl s nb t).getD j 0 ∈ bl s nb t := by
    rw [List.getD_eq_getElem?_getD, List.getElem?_eq_getElem h, Option.getD_some]
    exact List.getElem_mem h
  exact List.mem_range.mp (List.mem_filter.mp hm).1
theorem RXo.k {E : Ev} {A : Nat → Prop} {h h' : Hp} {y : Nat → Nat → Nat} {s : MS} {n cp : Nat → Nat} (R : RXo E A h y s n cp) (k : xk A h h') : RXo E A h' y s n cp := by
  obtain ⟨Ra, Rn, Rf, Rl, Rm, Rc, Rt, Rs, Rp⟩ := R
  obtain ⟨a0, a1, a2, a3, a4, a5, a6, a7, a8⟩ := id Ra
  have F : ∀ j, j ≤ 18 → A (y 0 j) := fun j hj => a1 0 j (Or.inl ⟨rfl, hj⟩)
  have D : ∀ j, 12 ≤ j → j ≤ 18 → cp j ≠ 0 → A (y 15 j) := fun j h1 h2 h3 => a1 15 j (Or.inr (Or.inr (Or.inr (Or.inr (Or.inr (Or.inl ⟨rfl, h1, h2, h3⟩))))))
  refine ⟨⟨fun a q => a0 a (fun z => q (k.1 a z)), a1, a2, a3, a4, a5, a6, a7, a8⟩, Rn, ?_, ?_, ?_, ?_, ?_, ?_, ?_⟩
  · obtain ⟨f0, f1, f2, f3, ⟨fw, f4, f4'⟩, ⟨sz, so, nu, f5⟩, ⟨g6, f6⟩, ⟨x7, y7, z7, f7⟩, ⟨x8, y8, z8, f8⟩, ⟨g9, f9⟩, ⟨g10, f10⟩, ⟨g11, f11, f11'⟩⟩ := Rf
    exact ⟨k.at f0 (F 0 (by omega)), k.at f1 (F 1 (by omega)), k.at f2 (F 2 (by omega)), k.at f3 (F 3 (by omega)), ⟨fw, k.at f4 (F 10 (by omega)), f4'⟩, ⟨sz, so, nu, k.at f5 (F 4 (by omega))⟩, ⟨g6, k.at f6 (F 11 (by omega))⟩, ⟨x7, y7, z7, k.at f7 (F 5 (by omega))⟩, ⟨x8, y8, z8, k.at f8 (F 6 (by omega))⟩, ⟨g9, k.at f9 (F 7 (by omega))⟩, ⟨g10, k.at f10 (F 8 (by omega))⟩, ⟨g11, k.at f11 (F 9 (by omega)), f11'⟩⟩
  · obtain ⟨l0, l1, l2, l3, l4, l5, l6, l7⟩ := Rl
    refine ⟨l0.k k (F 12 (by omega)) (D 12 (by omega) (by omega)) (fun i hi => a1 3 i (Or.inr (Or.inr (Or.inl ⟨Or.inl rfl, hi⟩)))), l1.k k (F 13 (by omega)) (D 13 (by omega) (by omega)) (fun i hi => a1 5 i (Or.inr (Or.inr (Or.inr (Or.inl ⟨Or.inl rfl, hi⟩))))), l2.k k (F 14 (by omega)) (D 14 (by omega) (by omega)) a5, l3.k k (F 15 (by omega)) (D 15 (by omega) (by omega)) a6, l4.k k (F 16 (by omega)) (D 16 (by omega) (by omega)) (fun i hi => a1 10 i (Or.inr (Or.inr (Or.inr (Or.inr (Or.inl ⟨Or.inl rfl, hi⟩)))))), l5.k k (F 17 (by omega)) (D 17 (by omega) (by omega)) (fun i hi => a1 9 i (Or.inr (Or.inr (Or.inl ⟨Or.inr rfl, hi⟩)))), l6.k k (F 18 (by omega)) (D 18 (by omega) (by omega)) a7, ⟨fun t ht => (l7.1 t ht).k k (a1 7 t (Or.inr (Or.inr (Or.inr (Or.inl ⟨Or.inr rfl, ht⟩))))) (fun hc => a1 8 t (Or.inr (Or.inr (Or.inr (Or.inr (Or.inr (Or.inr ⟨rfl, ht, hc⟩))))))) (fun i hi => a8 _ (bl_lt hi)), l7.2⟩⟩
  · intro j hj
    obtain ⟨a, b, c, d, sz, f, m1, m2, m3⟩ := Rm j hj
    exact ⟨a, b, c, d, sz, f, k.at m1 (a1 1 j (Or.inr (Or.inl ⟨Or.inl rfl, hj⟩))), k.at m2 (a1 2 j (Or.inr (Or.inl ⟨Or.inr rfl, hj⟩))), m3⟩
  · intro j hj
    obtain ⟨c1, ⟨c, q, am, un, t, w, a, sl, c2, c3⟩, c4⟩ := Rc j hj
    exact ⟨k.at c1 (a1 3 j (Or.inr (Or.inr (Or.inl ⟨Or.inl rfl, hj⟩)))), ⟨c, q, am, un, t, w, a, sl, k.at c2 (a3 j hj), c3⟩, k.at c4 (a1 9 j (Or.inr (Or.inr (Or.inl ⟨Or.inr rfl, hj⟩))))⟩
  · intro j hj
    obtain ⟨wd, t1, t2, c, q, am, un, t, w, a, sl, t3, t4⟩ := Rt j hj
    exact ⟨wd, k.at t1 (a1 5 j (Or.inr (Or.inr (Or.inr (Or.inl ⟨Or.inl rfl, hj⟩))))), t2, c, q, am, un, t, w, a, sl, k.at t3 (a4 j hj), t4⟩
  · intro j hj
    obtain ⟨so, nu, len, f, s1, s2, s3⟩ := Rs j hj
    exact ⟨so, nu, len, f, k.at s1 (a1 10 j (Or.inr (Or.inr (Or.inr (Or.inr (Or.inl ⟨Or.inl rfl, hj⟩)))))), k.at s2 (a1 11 j (Or.inr (Or.inr (Or.inr (Or.inr (Or.inl ⟨Or.inr rfl, hj⟩)))))), s3⟩
  · obtain ⟨p1, p2, p3, p4, p5⟩ := Rp
    refine ⟨fun j hj => ?_, fun j hj => ?_, fun j hj => ?_, fun j hj hz => ?_, p5⟩
    · obtain ⟨c, q, am, un, t, w, a, sl, e1, e2⟩ := p1 j hj
      exact ⟨c, q, am, un, t, w, a, sl, k.at e1 (a5 j hj), e2⟩
    · obtain ⟨c, q, am, un, t, w, a, sl, e1, e2⟩ := p2 j hj
      exact ⟨c, q, am, un, t, w, a, sl, k.at e1 (a6 j hj), e2⟩
    · obtain ⟨c, q, am, un, t, w, a, sl, e1, e2⟩ := p3 j hj
      exact ⟨c, q, am, un, t, w, a, sl, k.at e1 (a7 j hj), e2⟩
    · obtain ⟨c, q, am, un, t, w, a, sl, e1, e2⟩ := p4 j hj hz
      exact ⟨c, q, am, un, t, w, a, sl, k.at e1 (a8 j hj), e2⟩
theorem RXb.next {i : Nat} {n cp : Nat → Nat} {kc ks : Nat} (b : RXb i n cp kc ks) : RXb (i + 1) n cp kc ks := by
  obtain ⟨b1, b2⟩ := b
  exact ⟨by omega, by omega⟩
theorem RX_keep1 (E : Ev) (A S : Nat → Prop) (h h' : Hp) (x : Nat) (s : MS) (i kc ks : Nat) (R : RX E A h x s i kc ks) (f : xf S h h') (hS : ∀ a, S a → ¬ A a) : RX E A h' x s i kc ks := by
  obtain ⟨y, n, cp, h1, h2, h3⟩ := R
  exact ⟨y, n, cp, h1, h2.k ⟨fun a q => by rw [f.1]; exact q, fun a _ hA => f.2 a (fun z => hS a z hA)⟩, h3⟩
theorem RX_keep2 (E : Ev) (A : Nat → Prop) (h : Hp) (x : Nat) (s : MS) (i kc ks : Nat) (R : RX E A h x s i kc ks) : ∃ fs, xh_at h x (.inr (12, fs)) := by
  obtain ⟨y, n, cp, rfl, h2, h3⟩ := R
  exact ⟨_, h2.2.2.1.1⟩
theorem RX_keep3 (E : Ev) (A : Nat → Prop) (h : Hp) (x : Nat) (s : MS) (i kc ks : Nat) (R : RX E A h x s i kc ks) (_ : i < 512) : RX E A h x s (i + 1) kc ks := by
  obtain ⟨y, n, cp, h1, h2, h3⟩ := R
  exact ⟨y, n, cp, h1, h2, h3.next⟩
/-- an answer that changes nothing -/
theorem RX_same {E : Ev} {A : Nat → Prop} {h : Hp} {x : Nat} {s : MS} {i kc ks : Nat} {α : Type} {Q : α → Hp → Prop} {r : α} (R : RX E A h x s i kc ks) (hi : i < 512) (hQ : ∀ h', RX E A h' x s (i + 1) kc ks → xg A h h' → Q r h') : Q r h := hQ h (RX_keep3 E A h x s i kc ks R hi) xg.rf
