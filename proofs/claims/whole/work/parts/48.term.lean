/-! a terminal changes -/
abbrev TVP : Type := Int32 × Int32 × Int32 × Int32 × Int32 × Int32 × Int32 × Int32 × Int32 × (Nat → Int32) × (Nat → Int32) × (Nat → Int32) × (Nat → Int32) × (Nat → Int32) × (Nat → Int32) × (Nat → Int32) × (Nat → Int32) × (Nat → Int32) × (Nat → Int32) × (Nat → Int32) × (Nat → Int64) × (Nat → Int64) × (Nat → Int64) × (Nat → Int64) × (Nat → Int64)
def visP (s : MS) : TVP := (s.1 21, s.1 36, s.1 6, s.1 61, s.1 0, s.1 57, s.1 59, s.1 53, s.1 20, s.2.2.1 1, s.2.2.1 2, s.2.2.1 7, s.2.2.1 8, s.2.2.1 9, s.2.2.1 10, s.2.2.1 11, s.2.2.1 12, s.2.2.1 19, s.2.2.1 54, s.2.2.1 55, s.2.2.2 3, s.2.2.2 56, s.2.2.2 58, s.2.2.2 60, s.2.2.2 62)
def unvisP (t : TVP) : MS := (fun k => if k = 21 then t.1 else if k = 36 then t.2.1 else if k = 6 then t.2.2.1 else if k = 61 then t.2.2.2.1 else if k = 0 then t.2.2.2.2.1 else if k = 57 then t.2.2.2.2.2.1 else if k = 59 then t.2.2.2.2.2.2.1 else if k = 53 then t.2.2.2.2.2.2.2.1 else if k = 20 then t.2.2.2.2.2.2.2.2.1 else 0, 0, fun k => if k = 1 then t.2.2.2.2.2.2.2.2.2.1 else if k = 2 then t.2.2.2.2.2.2.2.2.2.2.1 else if k = 7 then t.2.2.2.2.2.2.2.2.2.2.2.1 else if k = 8 then t.2.2.2.2.2.2.2.2.2.2.2.2.1 else if k = 9 then t.2.2.2.2.2.2.2.2.2.2.2.2.2.1 else if k = 10 then t.2.2.2.2.2.2.2.2.2.2.2.2.2.2.1 else if k = 11 then t.2.2.2.2.2.2.2.2.2.2.2.2.2.2.2.1 else if k = 12 then t.2.2.2.2.2.2.2.2.2.2.2.2.2.2.2.2.1 else if k = 19 then t.2.2.2.2.2.2.2.2.2.2.2.2.2.2.2.2.2.1 else if k = 54 then t.2.2.2.2.2.2.2.2.2.2.2.2.2.2.2.2.2.2.1 else if k = 55 then t.2.2.2.2.2.2.2.2.2.2.2.2.2.2.2.2.2.2.2.1 else fun _ => 0, fun k => if k = 3 then t.2.2.2.2.2.2.2.2.2.2.2.2.2.2.2.2.2.2.2.2.1 else if k = 56 then t.2.2.2.2.2.2.2.2.2.2.2.2.2.2.2.2.2.2.2.2.2.1 else if k = 58 then t.2.2.2.2.2.2.2.2.2.2.2.2.2.2.2.2.2.2.2.2.2.2.1 else if k = 60 then t.2.2.2.2.2.2.2.2.2.2.2.2.2.2.2.2.2.2.2.2.2.2.2.1 else if k = 62 then t.2.2.2.2.2.2.2.2.2.2.2.2.2.2.2.2.2.2.2.2.2.2.2.2 else fun _ => 0)
section TM
variable {E : Ev} {A S : Nat → Prop} {h h' : Hp} {y : Nat → Nat → Nat} {s s' : MS} {n cp : Nat → Nat} {i u : Nat}
theorem RXn.p (R : RXn s n cp) (e : visP s' = visP s) : RXn s' n cp := by
  have h1 : RXn (unvisP (visP s)) n cp := R
  rw [← e] at h1; exact h1
theorem RXf.p (R : RXf E h y s n) (e : visP s' = visP s) : RXf E h y s' n := by
  have h1 : RXf E h y (unvisP (visP s)) n := R
  rw [← e] at h1; exact h1
theorem RXl.p (R : RXl E h y s n cp) (e : visP s' = visP s) : RXl E h y s' n cp := by
  have h1 : RXl E h y (unvisP (visP s)) n cp := R
  rw [← e] at h1; exact h1
theorem RXm.p (R : RXm E h y s n) (e : visP s' = visP s) : RXm E h y s' n := by
  have h1 : RXm E h y (unvisP (visP s)) n := R
  rw [← e] at h1; exact h1
theorem RXs.p (R : RXs E h y s n) (e : visP s' = visP s) : RXs E h y s' n := by
  have h1 : RXs E h y (unvisP (visP s)) n := R
  rw [← e] at h1; exact h1
def tmv (s : MS) (j : Nat) : Int64 × Int64 × Int32 × Int64 × Int32 × Int32 × Int32 × Int32 × Int32 × Int64 × Int64 × Int64 × Int32 × Int32 × Int32 := (s.2.2.2 37 j, s.2.2.2 38 j, s.2.2.1 40 j, s.2.2.2 39 j, s.2.2.1 43 j, s.2.2.1 46 j, s.2.2.1 48 j, s.2.2.1 51 j, s.2.2.1 41 j, s.2.2.2 42 j, s.2.2.2 44 j, s.2.2.2 45 j, s.2.2.1 47 j, s.2.2.1 49 j, s.2.2.1 50 j)
def termL (y : Nat → Nat → Nat) (t p : Nat) (x37 x38 : Int64) (x40 : Int32) (x39 : Int64) (x43 x46 x48 x51 x41 wd : Int32) : List Value := [.ref (y 0 1), .int (nI t), .long x37, .long x38, .ref (y 7 t), .int x40, .long x39, .int x43, .int x46, .ref p, .int x48, .int x51, .int x41, .int wd]
def tmP (h : Hp) (p t : Nat) (tm : Int64) (x41 : Int32) (x42 x44 x45 : Int64) (x47 x49 x50 wd : Int32) : Prop :=
  (¬ x41 = 0 → wd.toInt64 = tm - x42 ∧ 0 ≤ wd ∧ wd ≤ 20) ∧ ∃ c k am un tt w a sl, PAY h p c k am un tt w a sl ∧ (¬ x41 = 0 → tt = nI t ∧ am = x44 ∧ un = x45) ∧ ((x41 = 4 ∨ x41 = 6 ∨ x41 = 8 ∨ x41 = 10) → c = x47) ∧ ((x41 = 6 ∨ x41 = 8 ∨ x41 = 10) → w = x49) ∧ ((x41 = 8 ∨ x41 = 10) → k = x50)
def DJ (y : Nat → Nat → Nat) (n : Nat → Nat) (s : MS) (t p : Nat) : Prop := (∀ j, j < n 1 → j ≠ t → y 6 j ≠ p) ∧ (∀ j, j < n 0 → y 4 j ≠ p) ∧ (∀ j, j < n 6 → y 13 j ≠ p) ∧ (∀ j, j < n 3 → y 14 j ≠ p) ∧ ∀ j, j < n 7 → s.2.2.1 55 j = 0 → y 16 j ≠ p
theorem RXo.dj {t : Nat} (R : RXo E A h y s n cp) (ht : t < n 1) (hw : ¬ s.2.2.1 41 t = 0) : DJ y n s t (y 6 t) := R.2.2.2.2.2.2.2.2.2.2.2.2 t ht hw
theorem RXo.tm {t p : Nat} {x37 x38 : Int64} {x40 : Int32} {x39 : Int64} {x43 x46 x48 x51 x41 : Int32} {x42 x44 x45 : Int64} {x47 x49 x50 wd : Int32} (R : RXo E A h y s n cp) (ht : t < n 1) (g : xg S h h') (hS : ∀ a, S a → a = y 5 t ∨ (a = y 6 t ∧ DJ y n s t (y 6 t))) (hK : S (y 6 t) → ∀ c k am un tt w a sl, PAY h (y 6 t) c k am un tt w a sl → ∃ c' k' w' a' sl', PAY h' (y 6 t) c' k' am un tt w' a' sl')
    (hp : (p = y 6 t ∧ (DJ y n s t (y 6 t) ∨ x41 = 0)) ∨ p ∉ h.1) (hv : tmv s' t = (x37, x38, x40, x39, x43, x46, x48, x51, x41, x42, x44, x45, x47, x49, x50)) (hx : xh_at h' (y 5 t) (.inr (9, termL y t p x37 x38 x40 x39 x43 x46 x48 x51 x41 wd))) (hP : tmP h' p t s.2.1 x41 x42 x44 x45 x47 x49 x50 wd)
    (hO : visP s' = visP s) (hC : visC s' = visC s) (hT : ∀ j, j ≠ t → tmv s' j = tmv s j) (h0 : s'.2.1 = s.2.1) : RXo E A h' (up2 y 6 t p) s' n cp ∧ xg A h h' := by
  obtain ⟨Ra, Rn, Rf, Rl, Rm, Rc, Rt, Rs, Rp⟩ := id R
  obtain ⟨wd0, t1, t2, c0, k0, am0, un0, tt0, w0, a0, sl0, e0, e0'⟩ := Rt t ht
  have h56 : ¬ y 6 t = y 5 t := nP_obj t1 (by decide) _ _ e0
  have no : ∀ {k j}, lyv n cp k j → (k ≠ 5 ∨ j ≠ t) → ¬ S (y k j) := by
    intro k j hl hn z
    rcases hS _ z with e | ⟨e, _⟩
    · exact Ra.ne hl (ly5 ht) hn e
    · obtain ⟨v, v1, v2⟩ := R.ly hl
      rw [e] at v1
      exact v2 _ (v1.2.symm.trans e0.2)
  have nP : ∀ a fs, xh_at h a (.inr (6, fs)) → (DJ y n s t (y 6 t) → a ≠ y 6 t) → ¬ S a := by
    intro a fs ha hn z
    rcases hS a z with e | ⟨e, q⟩
    · exact nP_obj t1 (by decide) _ _ ha e
    · exact hn q e
  have ho : ∀ a, xo_at h a → xo_at h' a := by
    intro a ⟨ci, fs, q1, q2⟩
    by_cases z : S a
    · rcases hS a z with e | ⟨e, q⟩
      · rw [e]; exact ⟨9, _, by omega, hx⟩
      · rw [e] at z ⊢
        obtain ⟨c', k', w', a', sl', e'⟩ := hK z _ _ _ _ _ _ _ _ e0
        exact ⟨6, _, by omega, e'⟩
    · exact ⟨ci, fs, q1, g.at q2 z⟩
  obtain ⟨p1, p2, p3, p4, p5⟩ := id Rp
  have v := hv
  unfold tmv at v
  simp only [Prod.mk.injEq] at v
  obtain ⟨v1, v2, v3, v4, v5, v6, v7, v8, v9, v10, v11, v12, v13, v14, v15⟩ := v
  have y6n : ∀ j, j ≠ t → up2 y 6 t p 6 j = y 6 j := fun j hj => by
    show va_up (y 6) t p j = _
    exact va_up_ne _ _ hj
  have y6t : up2 y 6 t p 6 t = p := by
    show va_up (y 6) t p t = _
    exact va_up_self _ _ _
  have y6o : ∀ k j, k ≠ 6 → up2 y 6 t p k j = y k j := fun k j hk => by
    show va_up y 6 _ k j = _
    rw [va_up_ne _ _ hk]
  refine ⟨⟨?_, Rn.p hO, ?_, ?_, ?_, ?_, ?_, ?_, ?_⟩, g.mono (fun x _ z => by
    rcases hS x z with e | ⟨e, _⟩
    · rw [e]; exact Ra.2.1 5 t (ly5 ht)
    · rw [e]; exact Ra.2.2.2.2.1 t ht)⟩
  · refine Ra.py g.1 (fun k j _ a2 _ _ _ _ => y6o k j a2) (fun _ _ q => q) (fun j hj => ?_) (fun j hj => ?_) (fun j hj => ?_) (fun j hj => ?_) (fun j hj => ?_) (fun j hj => ?_)
    · rw [y6o 4 j (by omega)]; exact Ra.2.2.2.1 j hj
    · by_cases z : j = t
      · subst z
        rw [y6t]
        rcases hp with ⟨rfl, _⟩ | hp
        · exact Ra.2.2.2.2.1 j hj
        · exact Ra.1 _ hp
      · rw [y6n j z]; exact Ra.2.2.2.2.1 j hj
    · rw [y6o 12 j (by omega)]; exact Ra.2.2.2.2.2.1 j hj
    · rw [y6o 13 j (by omega)]; exact Ra.2.2.2.2.2.2.1 j hj
    · rw [y6o 14 j (by omega)]; exact Ra.2.2.2.2.2.2.2.1 j hj
    · rw [y6o 16 j (by omega)]; exact Ra.2.2.2.2.2.2.2.2 j hj
  · exact (Rf.g g (fun k hk => no (ly0 hk) (by omega))).p hO
  · exact (Rl.g g ho (fun k h1 h2 => no (ly0 h2) (by omega)) (fun k h1 h2 h3 => no (ly15 h1 h2 h3) (by omega)) (fun t ht => no (ly7 ht) (by omega)) (fun t ht hc' => no (ly8 ht hc') (by omega))).p hO
  · exact (Rm.g g (fun k hk => no (ly1 hk) (by omega)) (fun k hk => no (ly2 hk) (by omega))).p hO
  · refine RXc.o (s := s) (fun j hj => ?_) hC
    obtain ⟨d1, ⟨cc, k, am, un, tt, w, a, sl, e1, e2⟩, d3⟩ := Rc j hj
    exact ⟨g.at d1 (no (ly3 hj) (by omega)), ⟨cc, k, am, un, tt, w, a, sl, g.at e1 (nP _ _ e1 (fun q => q.2.1 j hj)), e2⟩, g.at d3 (no (ly9 hj) (by omega))⟩
  · intro j hj
    by_cases z : j = t
    · subst z
      refine ⟨wd, ?_, ?_⟩
      · rw [v1, v2, v3, v4, v5, v6, v7, v8, v9, y6t]
        exact hx
      · rw [v9, v10, v11, v12, v13, v14, v15, h0, y6t]
        exact hP
    · have e := hT j z
      unfold tmv at e
      simp only [Prod.mk.injEq] at e
      obtain ⟨u1, u2, u3, u4, u5, u6, u7, u8, u9, u10, u11, u12, u13, u14, u15⟩ := e
      obtain ⟨wdj, d1, d2, c, k, am, un, tt, w, a, sl, e1, e2⟩ := Rt j hj
      refine ⟨wdj, ?_, ?_⟩
      · rw [u1, u2, u3, u4, u5, u6, u7, u8, u9, y6n j z]
        exact g.at d1 (no (ly5 hj) (by omega))
      · rw [u9, u10, u11, u12, u13, u14, u15, h0, y6n j z]
        exact ⟨d2, c, k, am, un, tt, w, a, sl, g.at e1 (nP _ _ e1 (fun q => q.1 j hj z)), e2⟩
  · exact (Rs.g g (fun k hk => no (ly10 hk) (by omega)) (fun k hk => no (ly11 hk) (by omega))).p hO
  · have Q1 : (∀ j, j < n 5 → ∃ c k am un t w a sl, PAY h' (y 12 j) c k am un t w a sl ∧ s.2.2.2 58 (3 * j) = t.toInt64 ∧ s.2.2.2 58 (3 * j + 1) = am ∧ s.2.2.2 58 (3 * j + 2) = un) := by
      intro j hj
      obtain ⟨c, k, am, un, tt, w, a, sl, e1, e2⟩ := p1 j hj
      by_cases z : S (y 12 j)
      · rcases hS _ z with e | ⟨e, q⟩
        · exact absurd e (nP_obj t1 (by decide) _ _ e1)
        · rw [e] at e1 z ⊢
          obtain ⟨c', k', w', a', sl', e'⟩ := hK z _ _ _ _ _ _ _ _ e1
          exact ⟨c', k', am, un, tt, w', a', sl', e', e2⟩
      · exact ⟨c, k, am, un, tt, w, a, sl, g.at e1 z, e2⟩
    have Q2 : (∀ j, j < n 6 → ∃ c k am un t w a sl, PAY h' (y 13 j) c k am un t w a sl ∧ s.2.2.2 60 (7 * j) = c.toInt64 ∧ s.2.2.2 60 (7 * j + 1) = k.toInt64 ∧ s.2.2.2 60 (7 * j + 2) = am ∧ s.2.2.2 60 (7 * j + 3) = un ∧ s.2.2.2 60 (7 * j + 4) = t.toInt64 ∧ s.2.2.2 60 (7 * j + 5) = w.toInt64 ∧ s.2.2.2 60 (7 * j + 6) = a.toInt64) := by
      intro j hj
      obtain ⟨c, k, am, un, tt, w, a, sl, e1, e2⟩ := p2 j hj
      exact ⟨c, k, am, un, tt, w, a, sl, g.at e1 (nP _ _ e1 (fun q => q.2.2.1 j hj)), e2⟩
    have Q3 : (∀ j, j < n 3 → ∃ c k am un t w a sl, PAY h' (y 14 j) c k am un t w a sl ∧ s.2.2.2 62 (7 * j) = c.toInt64 ∧ s.2.2.2 62 (7 * j + 1) = k.toInt64 ∧ s.2.2.2 62 (7 * j + 2) = am ∧ s.2.2.2 62 (7 * j + 3) = un ∧ s.2.2.2 62 (7 * j + 4) = t.toInt64 ∧ s.2.2.2 62 (7 * j + 5) = w.toInt64 ∧ s.2.2.2 62 (7 * j + 6) = a.toInt64) := by
      intro j hj
      obtain ⟨c, k, am, un, tt, w, a, sl, e1, e2⟩ := p3 j hj
      exact ⟨c, k, am, un, tt, w, a, sl, g.at e1 (nP _ _ e1 (fun q => q.2.2.2.1 j hj)), e2⟩
    have Q4 : (∀ j, j < n 7 → s.2.2.1 55 j = 0 → ∃ c k am un t w a sl, PAY h' (y 16 j) c k am un t w a sl ∧ s.2.2.2 56 (7 * j) = c.toInt64 ∧ s.2.2.2 56 (7 * j + 1) = k.toInt64 ∧ s.2.2.2 56 (7 * j + 2) = am ∧ s.2.2.2 56 (7 * j + 3) = un ∧ s.2.2.2 56 (7 * j + 4) = t.toInt64 ∧ s.2.2.2 56 (7 * j + 5) = w.toInt64 ∧ s.2.2.2 56 (7 * j + 6) = sl ∧ t = s.2.2.1 54 j) := by
      intro j hj hz
      obtain ⟨c, k, am, un, tt, w, a, sl, e1, e2⟩ := p4 j hj hz
      exact ⟨c, k, am, un, tt, w, a, sl, g.at e1 (nP _ _ e1 (fun q => q.2.2.2.2 j hj hz)), e2⟩
    have eP := hO
    unfold visP at eP
    simp only [Prod.mk.injEq] at eP
    obtain ⟨-, -, -, -, -, -, -, -, -, -, -, -, -, -, -, -, -, -, z54, z55, -, z56, z58, z60, z62⟩ := eP
    refine ⟨?_, ?_, ?_, ?_, fun t' ht' hw => ?_⟩
    · rw [z58]; exact Q1
    · rw [z60]; exact Q2
    · rw [z62]; exact Q3
    · rw [z54, z55, z56]; exact Q4
    · rw [z55]
      by_cases z : t' = t
      · subst z
        rw [v9] at hw
        show (∀ j, j < n 1 → j ≠ t' → up2 y 6 t' p 6 j ≠ up2 y 6 t' p 6 t') ∧ (∀ j, j < n 0 → up2 y 6 t' p 4 j ≠ up2 y 6 t' p 6 t') ∧ (∀ j, j < n 6 → up2 y 6 t' p 13 j ≠ up2 y 6 t' p 6 t') ∧ (∀ j, j < n 3 → up2 y 6 t' p 14 j ≠ up2 y 6 t' p 6 t') ∧ ∀ j, j < n 7 → s.2.2.1 55 j = 0 → up2 y 6 t' p 16 j ≠ up2 y 6 t' p 6 t'
        rw [y6t]
        rcases hp with ⟨hp1, hp2⟩ | hp
        · rcases hp2 with hp2 | hp2
          · obtain ⟨q1, q2, q3, q4, q5⟩ := hp2
            rw [hp1]
            exact ⟨fun j hj hn => by rw [← hp1, y6n j hn, hp1]; exact q1 j hj hn, fun j hj => q2 j hj, fun j hj => q3 j hj, fun j hj => q4 j hj, fun j hj hz => q5 j hj hz⟩
          · exact absurd hp2 hw
        · refine ⟨fun j hj hn => ?_, fun j hj e => ?_, fun j hj e => ?_, fun j hj e => ?_, fun j hj hz e => ?_⟩
          · rw [y6n j hn]
            intro e
            obtain ⟨_, _, _, _, _, _, _, _, _, _, _, e1, _⟩ := Rt j hj
            exact hp (by rw [← e]; exact e1.1)
          · obtain ⟨d1, ⟨_, _, _, _, _, _, _, _, e1, _⟩, d3⟩ := Rc j hj
            exact hp (by rw [← e]; exact e1.1)
          · obtain ⟨_, _, _, _, _, _, _, _, e1, _⟩ := p2 j hj
            exact hp (by rw [← e]; exact e1.1)
          · obtain ⟨_, _, _, _, _, _, _, _, e1, _⟩ := p3 j hj
            exact hp (by rw [← e]; exact e1.1)
          · obtain ⟨_, _, _, _, _, _, _, _, e1, _⟩ := p4 j hj hz
            exact hp (by rw [← e]; exact e1.1)
      · have e := hT t' z
        unfold tmv at e
        simp only [Prod.mk.injEq] at e
        obtain ⟨-, -, -, -, -, -, -, -, u9, -, -, -, -, -, -⟩ := e
        rw [u9] at hw
        obtain ⟨q1, q2, q3, q4, q5⟩ := p5 t' ht' hw
        show (∀ j, j < n 1 → j ≠ t' → up2 y 6 t p 6 j ≠ up2 y 6 t p 6 t') ∧ (∀ j, j < n 0 → up2 y 6 t p 4 j ≠ up2 y 6 t p 6 t') ∧ (∀ j, j < n 6 → up2 y 6 t p 13 j ≠ up2 y 6 t p 6 t') ∧ (∀ j, j < n 3 → up2 y 6 t p 14 j ≠ up2 y 6 t p 6 t') ∧ ∀ j, j < n 7 → s.2.2.1 55 j = 0 → up2 y 6 t p 16 j ≠ up2 y 6 t p 6 t'
        rw [y6n t' z]
        refine ⟨fun j hj hn => ?_, q2, q3, q4, q5⟩
        by_cases zj : j = t
        · subst zj
          rw [y6t]
          rcases hp with ⟨hp1, _⟩ | hp
          · rw [hp1]; exact q1 j hj hn
          · intro e
            obtain ⟨_, _, _, _, _, _, _, _, _, _, _, e1, _⟩ := Rt t' ht'
            exact hp (by rw [e]; exact e1.1)
        · rw [y6n j zj]; exact q1 j hj hn
theorem W2.tm {t : Nat} (w : W2 i u s n) (ht : t < n 1) (hO : visP s' = visP s) (hC : visC s' = visC s) (hT : ∀ j, j ≠ t → tmv s' j = tmv s j) (hq : ¬ s'.2.2.1 41 t = 0 → (∃ c, c < n 0 ∧ s'.2.2.1 43 t = nI c) ∧ (s'.2.2.1 41 t = 2 ∨ s'.2.2.1 41 t = 4 ∨ s'.2.2.1 41 t = 6 ∨ s'.2.2.1 41 t = 8 ∨ s'.2.2.1 41 t = 10) ∧ (¬ s'.2.2.1 41 t = 2 → ∃ c, c < n 0 ∧ s'.2.2.1 47 t = nI c)) : W2 i u s' n := by
  obtain ⟨wc, wb, wg, wz, wa, wt, wp, wd, wf⟩ := w
  have a0 : W2c i u (unvisP (visP s)) n := wc
  have a1 : ∀ a, a < 3840 → okB ((unvisP (visP s)).2.2.1 12 a) := wb
  have a2 : ∀ a, a < 64 → okB ((unvisP (visP s)).2.2.1 19 a) := wg
  have a3 : ∀ j, j < 60 → ∃ z, z ≤ 64 ∧ (unvisP (visP s)).2.2.1 11 j = nI z := wz
  have a4 : ∀ j, j < n 2 → Ad n ((unvisP (visP s)).2.2.1 7 j) ((unvisP (visP s)).2.2.1 8 j) ∧ Ad n ((unvisP (visP s)).2.2.1 9 j) ((unvisP (visP s)).2.2.1 10 j) := wa
  have a5 : W2p (unvisC (visC s)) n := wp
  have a6 : Dist (unvisP (visP s)) (n 4) := wd
  have a7 : ∀ c, n 0 ≤ c → c < 16 → (unvisC (visC s)).2.2.1 26 c = 0 ∧ (unvisC (visC s)).2.2.1 27 c = 0 ∧ (unvisC (visC s)).2.2.1 29 c = 0 ∧ (unvisC (visC s)).2.2.1 30 c = 0 ∧ (unvisC (visC s)).2.2.1 31 c = 0 := wf.1
  have a8 : ∀ t, n 1 ≤ t → t < 8 → bl (unvisP (visP s)) (n 7) t = [] := fun t h1 h2 => (wf.2 t h1 h2).2.2.2.2.2.2
  rw [← hO] at a0 a1 a2 a3 a4 a6 a8
  rw [← hC] at a5 a7
  refine ⟨a0, a1, a2, a3, a4, fun j hj => ?_, a5, a6, a7, fun j h1 h2 => ?_⟩
  · by_cases z : j = t
    · subst z; exact hq
    · have e := hT j z
      unfold tmv at e
      simp only [Prod.mk.injEq] at e
      obtain ⟨u1, u2, u3, u4, u5, u6, u7, u8, u9, u10, u11, u12, u13, u14, u15⟩ := e
      rw [u9, u5, u13]
      exact wt j hj
  · have e := hT j (by omega)
    unfold tmv at e
    simp only [Prod.mk.injEq] at e
    obtain ⟨u1, u2, u3, u4, u5, u6, u7, u8, u9, u10, u11, u12, u13, u14, u15⟩ := e
    rw [u3, u9, u5, u6, u7, u8]
    obtain ⟨b1, b2, b3, b4, b5, b6, -⟩ := wf.2 j h1 h2
    exact ⟨b1, b2, b3, b4, b5, b6, a8 j h1 h2⟩
end TM
