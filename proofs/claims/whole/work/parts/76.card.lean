/-! a card more -/
def cardS (s : MS) (m : Nat) (z0 : Int32) (z1 : Int64) (z2 : Int32) (z3 : Int64) : MS := mI (mA (mA (mL (mA (mL (mA s 22 m z0) 23 m z1) 24 m z2) 25 m z3) 28 m 3) 35 m (-1)) 21 (nI (m + 1))
section CARD
variable {E : Ev} {A S : Nat → Prop} {h h' : Hp} {y y' : Nat → Nat → Nat} {s s' : MS} {n cp n' cp' : Nat → Nat} {i u k m kc ks : Nat} {r : Int32} {P : Nat → Prop}
theorem RXo.appS (R : RXo E A h y s n cp) (hP : ∀ j, P j → 12 ≤ j ∧ j ≤ 18) (g : xg (fun a => ∃ j, P j ∧ alS (y 0 j) (y 15 j) (cp j) a) h h') :
    RXf E h' y s n ∧ (∀ j m el, 12 ≤ j → j ≤ 18 → ¬ P j → AL E h (y 0 j) (y 15 j) m (cp j) el → AL E h' (y 0 j) (y 15 j) m (cp j) el) ∧ (∀ t, t < n 1 → ∀ m el, AL E h (y 7 t) (y 8 t) m (cp (20 + t)) el → AL E h' (y 7 t) (y 8 t) m (cp (20 + t)) el) ∧ RXm E h' y s n ∧ RXc h' y s n ∧ RXt h' y s n ∧ RXs E h' y s n ∧ RXp h' y s n ∧ xg A h h' ∧ ∀ a, xo_at h a → xo_at h' a := by
  obtain ⟨Ra, Rn, Rf, Rl, Rm, Rc, Rt, Rs, Rp⟩ := id R
  have no : ∀ {k j}, lyv n cp k j → ¬ (k = 0 ∧ P j) → ¬ (k = 15 ∧ P j) → ¬ ∃ j', P j' ∧ alS (y 0 j') (y 15 j') (cp j') (y k j) := by
    rintro k j hl h1 h2 ⟨j', hj', e⟩
    exact alS.no R (hP j' hj').2 (hP j' hj').1 hl (fun z => h1 ⟨z.1, by rw [z.2]; exact hj'⟩) (fun z => h2 ⟨z.1, by rw [z.2]; exact hj'⟩) e
  have hPy : ∀ a fs, xh_at h a (.inr (6, fs)) → ¬ ∃ j', P j' ∧ alS (y 0 j') (y 15 j') (cp j') a := by
    rintro a fs hp ⟨j', hj', e⟩
    exact alS.pay R (hP j' hj').2 (hP j' hj').1 a fs hp e
  have ho : ∀ a, xo_at h a → xo_at h' a := by
    intro a ⟨ci, fs, q1, q2⟩
    refine ⟨ci, fs, q1, g.at q2 ?_⟩
    rintro ⟨j', hj', e⟩
    obtain ⟨m, el, md, a1, a2, a3⟩ := R.lst (hP j' hj').2 (hP j' hj').1
    rcases e with rfl | ⟨rfl, e2⟩
    · have := q2.2.symm.trans a1.2
      injection this with z; injection z with z; omega
    · rcases a3 with ⟨z, _⟩ | ⟨_, f, a4, _⟩
      · exact e2 z
      · have := q2.2.symm.trans a4.2
        cases this
  have k0 : ∀ {j e}, j ≤ 11 → xh_at h (y 0 j) e → xh_at h' (y 0 j) e := fun hj hx => g.at hx (no (ly0 (by omega)) (fun z => by have := (hP _ z.2).1; omega) (by omega))
  refine ⟨?_, fun j m el q1 q2 q3 q4 => q4.g2 g ho (no (ly0 q2) (fun z => q3 z.2) (by omega)) (fun hc => no (ly15 q1 q2 hc) (by omega) (fun z => q3 z.2)), fun t ht m el q4 => q4.g2 g ho (no (ly7 ht) (by omega) (by omega)) (fun hc => no (ly8 ht hc) (by omega) (by omega)), Rm.g g (fun k hk => no (ly1 hk) (by omega) (by omega)) (fun k hk => no (ly2 hk) (by omega) (by omega)), Rc.g g (fun k hk => no (ly3 hk) (by omega) (by omega)) (fun k hk => no (ly9 hk) (by omega) (by omega)) hPy, Rt.g g (fun k hk => no (ly5 hk) (by omega) (by omega)) hPy, Rs.g g (fun k hk => no (ly10 hk) (by omega) (by omega)) (fun k hk => no (ly11 hk) (by omega) (by omega)), Rp.g g hPy, g.mono (fun x _ z => ?_), ho⟩
  · obtain ⟨f0, f1, f2, f3, ⟨fw, f4, f4'⟩, ⟨sz, so, nu, f5⟩, ⟨g6, f6⟩, ⟨x7, y7, z7, f7⟩, ⟨x8, y8, z8, f8⟩, ⟨g9, f9⟩, ⟨g10, f10⟩, ⟨g11, f11, f11'⟩⟩ := Rf
    exact ⟨k0 (by omega) f0, k0 (by omega) f1, k0 (by omega) f2, k0 (by omega) f3, ⟨fw, k0 (by omega) f4, f4'⟩, ⟨sz, so, nu, k0 (by omega) f5⟩, ⟨g6, k0 (by omega) f6⟩, ⟨x7, y7, z7, k0 (by omega) f7⟩, ⟨x8, y8, z8, k0 (by omega) f8⟩, ⟨g9, k0 (by omega) f9⟩, ⟨g10, k0 (by omega) f10⟩, ⟨g11, k0 (by omega) f11, f11'⟩⟩
  · obtain ⟨j', hj', z⟩ := z
    rcases z with rfl | ⟨rfl, e2⟩
    · exact Ra.2.1 _ _ (ly0 (hP j' hj').2)
    · exact Ra.2.1 _ _ (ly15 (hP j' hj').1 (hP j' hj').2 e2)
theorem cardS_cdv {z0 z2 : Int32} {z1 z3 : Int64} {j : Nat} (hj : j ≠ m) : cdv (cardS s m z0 z1 z2 z3) j = cdv s j := by simp [cdv, cardS, mA, mL, mI, va_up, upd, vp_updL, hj]
theorem cardS_new {z0 z2 : Int32} {z1 z3 : Int64} : cdv (cardS s m z0 z1 z2 z3) m = (z0, z1, z2, s.2.2.1 27 m, 3, s.2.2.1 29 m, s.2.2.1 30 m, -1, s.2.2.1 31 m, s.2.2.2 32 m, s.2.2.2 33 m, s.2.2.2 34 m, z3, s.2.2.1 26 m) := by simp [cdv, cardS, mA, mL, mI, va_up, upd, vp_updL]
theorem RXo.newc {q p a d1 d2 c1 c2 : Nat} {z0 z2 : Int32} {z1 z3 : Int64} (R : RXo E A h y s n cp) (h16 : n 0 < 16) (hf : s.2.2.1 26 (n 0) = 0 ∧ s.2.2.1 27 (n 0) = 0 ∧ s.2.2.1 29 (n 0) = 0 ∧ s.2.2.1 30 (n 0) = 0 ∧ s.2.2.1 31 (n 0) = 0) (g : xg (fun x => ∃ j, (j = 12 ∨ j = 17) ∧ alS (y 0 j) (y 15 j) (cp j) x) h h') (hq0 : q ∉ h.1) (hp0 : p ∉ h.1) (ha0 : a ∉ h.1)
    (hq : xh_at h' q (.inr (2, [.ref (y 0 1), .int (nI (n 0)), .int z0, .long z1, .int z2, .int 0, .int 3, .int 0, .int 0, .int (-1), .int 0, .ref p]))) (hp : PAY h' p 0 0 0 0 0 0 0 0) (ha : xh_at h' a (.inr (1, [.long z3, .int 0])))
    (al1 : AL E h' (y 0 12) d1 (n 0 + 1) c1 (va_up (y 3) (n 0) q)) (al2 : AL E h' (y 0 17) d2 (n 0 + 1) c2 (va_up (y 9) (n 0) a)) (hd1 : (n 0 < cp 12 ∧ d1 = y 15 12 ∧ c1 = cp 12) ∨ (n 0 = cp 12 ∧ d1 ∉ h.1 ∧ c1 = al_cap (cp 12))) (hd2 : (n 0 < cp 17 ∧ d2 = y 15 17 ∧ c2 = cp 17) ∨ (n 0 = cp 17 ∧ d2 ∉ h.1 ∧ c2 = al_cap (cp 17))) :
    RXo E A h' (up2 (up2 (up2 (up2 (up2 y 3 (n 0) q) 4 (n 0) p) 9 (n 0) a) 15 12 d1) 15 17 d2) (cardS s (n 0) z0 z1 z2 z3) (va_up n 0 (n 0 + 1)) (va_up (va_up cp 12 c1) 17 c2) ∧ xg A h h' := by
  obtain ⟨Ra, Rn, Rf, Rl, Rm, Rc, Rt, Rs, Rp⟩ := id R
  obtain ⟨Pf, Pl, Pb, Pm, Pc, Pt, Ps, Pp, PA, Po⟩ := R.appS (P := fun j => j = 12 ∨ j = 17) (fun j hj => by omega) g
  have nqa : q ≠ a := hq.neq ha (by intro w; injection w with w; injection w with w; omega)
  have r1 : n 0 + 1 ≤ c1 ∧ 10 ≤ c1 ∧ ∃ f, xh_at h' d1 (.inl (E.1 4, c1, .inr (.inr (.inr (.inr f))))) ∧ f (n 0) = some q := by
    obtain ⟨md, b1, b2, b3⟩ := al1
    rcases b3 with ⟨w, _⟩ | ⟨w, f, b4, b5, _⟩
    · omega
    · exact ⟨b2, w, f, b4, by rw [b5 (n 0) (by omega), va_up_self]⟩
  have r2 : n 0 + 1 ≤ c2 ∧ 10 ≤ c2 ∧ ∃ f, xh_at h' d2 (.inl (E.1 4, c2, .inr (.inr (.inr (.inr f))))) ∧ f (n 0) = some a := by
    obtain ⟨md, b1, b2, b3⟩ := al2
    rcases b3 with ⟨w, _⟩ | ⟨w, f, b4, b5, _⟩
    · omega
    · exact ⟨b2, w, f, b4, by rw [b5 (n 0) (by omega), va_up_self]⟩
  obtain ⟨-, hc1, fr1, ra1, rb1⟩ := r1
  obtain ⟨-, hc2, fr2, ra2, rb2⟩ := r2
  have nd : d1 ≠ d2 := by
    intro e
    subst e
    have w := ra1.2.symm.trans ra2.2
    injection w with w; injection w with _ w; injection w with _ w; injection w with w; injection w with w; injection w with w; injection w with w
    rw [w, rb2] at rb1
    injection rb1 with w2
    exact nqa w2.symm
  have nqd : ∀ {d c : Nat} {f : Nat → Option Nat}, xh_at h' d (.inl (E.1 4, c, .inr (.inr (.inr (.inr f))))) → q ≠ d ∧ a ≠ d := fun hx => ⟨hq.neq hx (by intro w; cases w), ha.neq hx (by intro w; cases w)⟩
  have Y : ∀ k j, k ≠ 3 → k ≠ 4 → k ≠ 9 → k ≠ 15 → up2 (up2 (up2 (up2 (up2 y 3 (n 0) q) 4 (n 0) p) 9 (n 0) a) 15 12 d1) 15 17 d2 k j = y k j := by
    intro k j e3 e4 e9 e15
    show va_up (va_up (va_up (va_up (va_up y 3 _) 4 _) 9 _) 15 _) 15 _ k j = _
    rw [va_up_ne _ _ e15, va_up_ne _ _ e15, va_up_ne _ _ e9, va_up_ne _ _ e4, va_up_ne _ _ e3]
  have Y3 : ∀ j, up2 (up2 (up2 (up2 (up2 y 3 (n 0) q) 4 (n 0) p) 9 (n 0) a) 15 12 d1) 15 17 d2 3 j = va_up (y 3) (n 0) q j := fun _ => rfl
  have Y4 : ∀ j, up2 (up2 (up2 (up2 (up2 y 3 (n 0) q) 4 (n 0) p) 9 (n 0) a) 15 12 d1) 15 17 d2 4 j = va_up (y 4) (n 0) p j := fun _ => rfl
  have Y9 : ∀ j, up2 (up2 (up2 (up2 (up2 y 3 (n 0) q) 4 (n 0) p) 9 (n 0) a) 15 12 d1) 15 17 d2 9 j = va_up (y 9) (n 0) a j := fun _ => rfl
  have Y15 : ∀ j, up2 (up2 (up2 (up2 (up2 y 3 (n 0) q) 4 (n 0) p) 9 (n 0) a) 15 12 d1) 15 17 d2 15 j = va_up (va_up (y 15) 12 d1) 17 d2 j := fun _ => rfl
  have C : ∀ j, j ≠ 12 → j ≠ 17 → va_up (va_up cp 12 c1) 17 c2 j = cp j := fun j e1 e2 => by rw [va_up_ne _ _ e2, va_up_ne _ _ e1]
  -- a row of the layout: old, or one of four new ones
  have cls : ∀ k j, lyv (va_up n 0 (n 0 + 1)) (va_up (va_up cp 12 c1) 17 c2) k j → (lyv n cp k j ∧ up2 (up2 (up2 (up2 (up2 y 3 (n 0) q) 4 (n 0) p) 9 (n 0) a) 15 12 d1) 15 17 d2 k j = y k j) ∨ (k = 3 ∧ j = n 0) ∨ (k = 9 ∧ j = n 0) ∨ (k = 15 ∧ j = 12 ∧ d1 ∉ h.1) ∨ (k = 15 ∧ j = 17 ∧ d2 ∉ h.1) := by
    intro k j hl
    rcases hl with w | w | ⟨w1, w2⟩ | w | w | ⟨w1, w2, w3, w4⟩ | ⟨w1, w2, w3⟩
    · exact Or.inl ⟨Or.inl w, Y k j (by omega) (by omega) (by omega) (by omega)⟩
    · exact Or.inl ⟨Or.inr (Or.inl w), Y k j (by omega) (by omega) (by omega) (by omega)⟩
    · have w2' : j < n 0 + 1 := w2
      by_cases ej : j = n 0
      · rcases w1 with w1 | w1
        · exact Or.inr (Or.inl ⟨w1, ej⟩)
        · exact Or.inr (Or.inr (Or.inl ⟨w1, ej⟩))
      · refine Or.inl ⟨Or.inr (Or.inr (Or.inl ⟨w1, by omega⟩)), ?_⟩
        rcases w1 with rfl | rfl
        · rw [Y3, va_up_ne _ _ ej]
        · rw [Y9, va_up_ne _ _ ej]
    · exact Or.inl ⟨Or.inr (Or.inr (Or.inr (Or.inl w))), Y k j (by omega) (by omega) (by omega) (by omega)⟩
    · exact Or.inl ⟨Or.inr (Or.inr (Or.inr (Or.inr (Or.inl w)))), Y k j (by omega) (by omega) (by omega) (by omega)⟩
    · subst w1
      by_cases e12 : j = 12
      · subst e12
        rcases hd1 with ⟨b1, b2, b3⟩ | ⟨b1, b2, b3⟩
        · refine Or.inl ⟨ly15 (by omega) (by omega) (by omega), ?_⟩
          rw [Y15, va_up_ne _ _ (by omega), va_up_self, b2]
        · exact Or.inr (Or.inr (Or.inr (Or.inl ⟨rfl, rfl, b2⟩)))
      · by_cases e17 : j = 17
        · subst e17
          rcases hd2 with ⟨b1, b2, b3⟩ | ⟨b1, b2, b3⟩
          · refine Or.inl ⟨ly15 (by omega) (by omega) (by omega), ?_⟩
            rw [Y15, va_up_self, b2]
          · exact Or.inr (Or.inr (Or.inr (Or.inr ⟨rfl, rfl, b2⟩)))
        · rw [C j e12 e17] at w4
          refine Or.inl ⟨ly15 w2 w3 w4, ?_⟩
          rw [Y15, va_up_ne _ _ e17, va_up_ne _ _ e12]
    · rw [C _ (by omega) (by omega)] at w3
      exact Or.inl ⟨Or.inr (Or.inr (Or.inr (Or.inr (Or.inr (Or.inr ⟨w1, w2, w3⟩))))), Y k j (by omega) (by omega) (by omega) (by omega)⟩
  have vq : up2 (up2 (up2 (up2 (up2 y 3 (n 0) q) 4 (n 0) p) 9 (n 0) a) 15 12 d1) 15 17 d2 3 (n 0) = q := by rw [Y3, va_up_self]
  have va : up2 (up2 (up2 (up2 (up2 y 3 (n 0) q) 4 (n 0) p) 9 (n 0) a) 15 12 d1) 15 17 d2 9 (n 0) = a := by rw [Y9, va_up_self]
  have v1 : up2 (up2 (up2 (up2 (up2 y 3 (n 0) q) 4 (n 0) p) 9 (n 0) a) 15 12 d1) 15 17 d2 15 12 = d1 := by rw [Y15, va_up_ne _ _ (by omega), va_up_self]
  have v2 : up2 (up2 (up2 (up2 (up2 y 3 (n 0) q) 4 (n 0) p) 9 (n 0) a) 15 12 d1) 15 17 d2 15 17 = d2 := by rw [Y15, va_up_self]
  refine ⟨⟨?_, ?_, Pf, ?_, Pm, ?_, Pt, Ps, ?_⟩, PA⟩
  · refine RXa.ext R g.1 (fun k j hl => ?_) (fun k j k' j' hl hl' p1 p2 e => ?_) (fun j hj => ?_) Ra.2.2.2.2.1 Ra.2.2.2.2.2.1 Ra.2.2.2.2.2.2.1 Ra.2.2.2.2.2.2.2.1 Ra.2.2.2.2.2.2.2.2
    · rcases cls k j hl with w | ⟨rfl, rfl⟩ | ⟨rfl, rfl⟩ | ⟨rfl, rfl, w⟩ | ⟨rfl, rfl, w⟩
      · exact Or.inl w
      · right; rw [vq]; exact hq0
      · right; rw [va]; exact ha0
      · right; rw [v1]; exact w
      · right; rw [v2]; exact w
    · have o1 : ¬ (lyv n cp k j ∧ up2 (up2 (up2 (up2 (up2 y 3 (n 0) q) 4 (n 0) p) 9 (n 0) a) 15 12 d1) 15 17 d2 k j = y k j) := fun w => p1 (by rw [w.2]; exact R.lyin w.1)
      have o2 : ¬ (lyv n cp k' j' ∧ up2 (up2 (up2 (up2 (up2 y 3 (n 0) q) 4 (n 0) p) 9 (n 0) a) 15 12 d1) 15 17 d2 k' j' = y k' j') := fun w => p2 (by rw [w.2]; exact R.lyin w.1)
      rcases cls k j hl with w | ⟨rfl, rfl⟩ | ⟨rfl, rfl⟩ | ⟨rfl, rfl, w⟩ | ⟨rfl, rfl, w⟩
      · exact absurd w o1
      · rcases cls k' j' hl' with w | ⟨rfl, rfl⟩ | ⟨rfl, rfl⟩ | ⟨rfl, rfl, w⟩ | ⟨rfl, rfl, w⟩
        · exact absurd w o2
        · exact ⟨rfl, rfl⟩
        · rw [vq, va] at e; exact absurd e nqa
        · rw [vq, v1] at e; exact absurd e (nqd ra1).1
        · rw [vq, v2] at e; exact absurd e (nqd ra2).1
      · rcases cls k' j' hl' with w | ⟨rfl, rfl⟩ | ⟨rfl, rfl⟩ | ⟨rfl, rfl, w⟩ | ⟨rfl, rfl, w⟩
        · exact absurd w o2
        · rw [vq, va] at e; exact absurd e.symm nqa
        · exact ⟨rfl, rfl⟩
        · rw [va, v1] at e; exact absurd e (nqd ra1).2
        · rw [va, v2] at e; exact absurd e (nqd ra2).2
      · rcases cls k' j' hl' with w' | ⟨rfl, rfl⟩ | ⟨rfl, rfl⟩ | ⟨rfl, rfl, w'⟩ | ⟨rfl, rfl, w'⟩
        · exact absurd w' o2
        · rw [vq, v1] at e; exact absurd e.symm (nqd ra1).1
        · rw [va, v1] at e; exact absurd e.symm (nqd ra1).2
        · exact ⟨rfl, rfl⟩
        · rw [v1, v2] at e; exact absurd e nd
      · rcases cls k' j' hl' with w' | ⟨rfl, rfl⟩ | ⟨rfl, rfl⟩ | ⟨rfl, rfl, w'⟩ | ⟨rfl, rfl, w'⟩
        · exact absurd w' o2
        · rw [vq, v2] at e; exact absurd e.symm (nqd ra2).1
        · rw [va, v2] at e; exact absurd e.symm (nqd ra2).2
        · rw [v1, v2] at e; exact absurd e.symm nd
        · exact ⟨rfl, rfl⟩
    · rw [Y4]
      by_cases ej : j = n 0
      · subst ej; rw [va_up_self]; exact Ra.1 _ hp0
      · rw [va_up_ne _ _ ej]; exact Ra.2.2.2.1 j (by have : j < n 0 + 1 := hj; omega)
  · obtain ⟨r0, r1, r2, r3, r4, r5, r6, r7, r8, r9, r10⟩ := Rn
    refine ⟨⟨rfl, by show n 0 + 1 ≤ 16; omega⟩, r1, r2, r3, r4, r5, r6, r7, r8, r9, fun j => ?_⟩
    have b1 : c1 ≤ 8192 := by
      rcases hd1 with ⟨w1, w2, w3⟩ | ⟨w1, w2, w3⟩
      · rw [w3]; exact r10 12
      · rw [w3, ← w1]; unfold al_cap; split <;> omega
    have b2 : c2 ≤ 8192 := by
      rcases hd2 with ⟨w1, w2, w3⟩ | ⟨w1, w2, w3⟩
      · rw [w3]; exact r10 17
      · rw [w3, ← w1]; unfold al_cap; split <;> omega
    by_cases e17 : j = 17
    · subst e17; rw [va_up_self]; exact b2
    · rw [va_up_ne _ _ e17]
      by_cases e12 : j = 12
      · subst e12; rw [va_up_self]; exact b1
      · rw [va_up_ne _ _ e12]; exact r10 j
  · obtain ⟨l0, l1, l2, l3, l4, l5, l6, l7⟩ := Rl
    refine ⟨al1, Pl 13 _ _ (by omega) (by omega) (by omega) l1, Pl 14 _ _ (by omega) (by omega) (by omega) l2, Pl 15 _ _ (by omega) (by omega) (by omega) l3, Pl 16 _ _ (by omega) (by omega) (by omega) l4, al2, Pl 18 _ _ (by omega) (by omega) (by omega) l6, fun t' ht => ?_, fun t' ht => (C _ (by omega) (by omega)).trans (l7.2 t' ht)⟩
    have := Pb t' ht _ _ (l7.1 t' ht)
    rw [← C (20 + t') (by omega) (by omega)] at this
    exact this
  · intro j hj
    have hj' : j < n 0 + 1 := hj
    by_cases ej : j = n 0
    · subst ej
      have v := cardS_new (s := s) (m := n 0) (z0 := z0) (z1 := z1) (z2 := z2) (z3 := z3)
      unfold cdv at v
      simp only [Prod.mk.injEq] at v
      obtain ⟨u1, u2, u3, u4, u5, u6, u7, u8, u9, u10, u11, u12, u13, u14⟩ := v
      obtain ⟨b1, b2, b3, b4, b5⟩ := hf
      rw [vq, va, Y4, va_up_self, Y 0 1 (by omega) (by omega) (by omega) (by omega), u1, u2, u3, u4, u5, u6, u7, u8, u9, u13, u14, b1, b2, b3, b4, b5]
      exact ⟨hq, ⟨_, _, _, _, _, _, _, _, hp, fun w => absurd w (by decide)⟩, ha⟩
    · have v := cardS_cdv (s := s) (m := n 0) (z0 := z0) (z1 := z1) (z2 := z2) (z3 := z3) ej
      unfold cdv at v
      simp only [Prod.mk.injEq] at v
      obtain ⟨u1, u2, u3, u4, u5, u6, u7, u8, u9, u10, u11, u12, u13, u14⟩ := v
      have := Pc j (by omega)
      rw [Y3, Y4, Y9, va_up_ne _ _ ej, va_up_ne _ _ ej, va_up_ne _ _ ej, Y 0 1 (by omega) (by omega) (by omega) (by omega), u1, u2, u3, u4, u5, u6, u7, u8, u9, u10, u11, u12, u13, u14]
      exact this
  · obtain ⟨p1, p2, p3, p4, p5⟩ := Pp
    refine ⟨p1, p2, p3, p4, fun t1 ht hw => ?_⟩
    obtain ⟨q1, q2, q3, q4, q5⟩ := p5 t1 ht hw
    refine ⟨q1, fun j hj => ?_, q3, q4, q5⟩
    have hj' : j < n 0 + 1 := hj
    rw [Y4]
    show _ ≠ y 6 t1
    by_cases ej : j = n 0
    · subst ej
      rw [va_up_self]
      exact fun e => (R.fr hp0).1 t1 ht e.symm
    · rw [va_up_ne _ _ ej]; exact q2 j (by omega)
theorem W2.newc {z0 z2 : Int32} {z1 z3 : Int64} (w : W2 i u s n) (h16 : n 0 < 16) : W2 i u (cardS s (n 0) z0 z1 z2 z3) (va_up n 0 (n 0 + 1)) := by
  obtain ⟨⟨c0, c1, c2, c3, c4, c5, c6, c7, c8⟩, wb, wg, wz, wa, wt, wp, wd, wf⟩ := w
  have hA : ∀ k, k ≠ 22 → k ≠ 24 → k ≠ 28 → k ≠ 35 → (cardS s (n 0) z0 z1 z2 z3).2.2.1 k = s.2.2.1 k := by
    intro k a1 a2 a3 a4
    show va_up (va_up (va_up (va_up s.2.2.1 22 _) 24 _) 28 _) 35 _ k = _
    rw [va_up_ne _ _ a4, va_up_ne _ _ a3, va_up_ne _ _ a2, va_up_ne _ _ a1]
  have h35 : (cardS s (n 0) z0 z1 z2 z3).2.2.1 35 = upd (s.2.2.1 35) (n 0) (-1) := rfl
  refine ⟨⟨⟨rfl, by show n 0 + 1 ≤ 16; omega⟩, c1, c2, c3, c4, c5, c6, c7, c8⟩, wb, wg, wz, fun j hj => ?_, fun t ht => ?_, fun c hc => ?_, wd, fun c h1 h2 => ?_, wf.2⟩
  · have := wa j hj
    exact ⟨this.1.m (by show n 0 ≤ n 0 + 1; omega) (Nat.le_refl _), this.2.m (by show n 0 ≤ n 0 + 1; omega) (Nat.le_refl _)⟩
  · intro q
    obtain ⟨⟨c, hc, e⟩, b2, b3⟩ := wt t ht q
    refine ⟨⟨c, by show c < n 0 + 1; omega, e⟩, b2, fun q2 => ?_⟩
    obtain ⟨c', hc', e'⟩ := b3 q2
    exact ⟨c', by show c' < n 0 + 1; omega, e'⟩
  · have hc' : c < n 0 + 1 := hc
    rw [h35]
    by_cases e : c = n 0
    · subst e; rw [pk_us]; exact Or.inl rfl
    · rw [pk_un e]; exact wp c (by omega)
  · have h1' : n 0 + 1 ≤ c := h1
    rw [hA 26 (by omega) (by omega) (by omega) (by omega), hA 27 (by omega) (by omega) (by omega) (by omega), hA 29 (by omega) (by omega) (by omega) (by omega), hA 30 (by omega) (by omega) (by omega) (by omega), hA 31 (by omega) (by omega) (by omega) (by omega)]
    exact wf.1 c (by omega) h2
end CARD
