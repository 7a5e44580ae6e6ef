/-! the relation's parts: what each sees of the state; cards change -/
abbrev TVO : Type := Int32 × Int32 × Int32 × Int32 × Int32 × Int32 × Int32 × Int32 × Int32 × (Nat → Int32) × (Nat → Int32) × (Nat → Int32) × (Nat → Int32) × (Nat → Int32) × (Nat → Int32) × (Nat → Int32) × (Nat → Int32) × (Nat → Int32) × (Nat → Int32) × (Nat → Int32) × (Nat → Int32) × (Nat → Int64) × (Nat → Int64) × (Nat → Int64) × (Nat → Int64) × (Nat → Int64)
def visO (s : MS) : TVO := (s.1 21, s.1 36, s.1 6, s.1 61, s.1 0, s.1 57, s.1 59, s.1 53, s.1 20, s.2.2.1 1, s.2.2.1 2, s.2.2.1 7, s.2.2.1 8, s.2.2.1 9, s.2.2.1 10, s.2.2.1 11, s.2.2.1 12, s.2.2.1 19, s.2.2.1 41, s.2.2.1 54, s.2.2.1 55, s.2.2.2 3, s.2.2.2 56, s.2.2.2 58, s.2.2.2 60, s.2.2.2 62)
def unvisO (t : TVO) : MS := (fun k => if k = 21 then t.1 else if k = 36 then t.2.1 else if k = 6 then t.2.2.1 else if k = 61 then t.2.2.2.1 else if k = 0 then t.2.2.2.2.1 else if k = 57 then t.2.2.2.2.2.1 else if k = 59 then t.2.2.2.2.2.2.1 else if k = 53 then t.2.2.2.2.2.2.2.1 else if k = 20 then t.2.2.2.2.2.2.2.2.1 else 0, 0, fun k => if k = 1 then t.2.2.2.2.2.2.2.2.2.1 else if k = 2 then t.2.2.2.2.2.2.2.2.2.2.1 else if k = 7 then t.2.2.2.2.2.2.2.2.2.2.2.1 else if k = 8 then t.2.2.2.2.2.2.2.2.2.2.2.2.1 else if k = 9 then t.2.2.2.2.2.2.2.2.2.2.2.2.2.1 else if k = 10 then t.2.2.2.2.2.2.2.2.2.2.2.2.2.2.1 else if k = 11 then t.2.2.2.2.2.2.2.2.2.2.2.2.2.2.2.1 else if k = 12 then t.2.2.2.2.2.2.2.2.2.2.2.2.2.2.2.2.1 else if k = 19 then t.2.2.2.2.2.2.2.2.2.2.2.2.2.2.2.2.2.1 else if k = 41 then t.2.2.2.2.2.2.2.2.2.2.2.2.2.2.2.2.2.2.1 else if k = 54 then t.2.2.2.2.2.2.2.2.2.2.2.2.2.2.2.2.2.2.2.1 else if k = 55 then t.2.2.2.2.2.2.2.2.2.2.2.2.2.2.2.2.2.2.2.2.1 else fun _ => 0, fun k => if k = 3 then t.2.2.2.2.2.2.2.2.2.2.2.2.2.2.2.2.2.2.2.2.2.1 else if k = 56 then t.2.2.2.2.2.2.2.2.2.2.2.2.2.2.2.2.2.2.2.2.2.2.1 else if k = 58 then t.2.2.2.2.2.2.2.2.2.2.2.2.2.2.2.2.2.2.2.2.2.2.2.1 else if k = 60 then t.2.2.2.2.2.2.2.2.2.2.2.2.2.2.2.2.2.2.2.2.2.2.2.2.1 else if k = 62 then t.2.2.2.2.2.2.2.2.2.2.2.2.2.2.2.2.2.2.2.2.2.2.2.2.2 else fun _ => 0)
abbrev TVC : Type := (Nat → Int32) × (Nat → Int32) × (Nat → Int32) × (Nat → Int32) × (Nat → Int32) × (Nat → Int32) × (Nat → Int32) × (Nat → Int32) × (Nat → Int32) × (Nat → Int64) × (Nat → Int64) × (Nat → Int64) × (Nat → Int64) × (Nat → Int64)
def visC (s : MS) : TVC := (s.2.2.1 22, s.2.2.1 24, s.2.2.1 26, s.2.2.1 27, s.2.2.1 28, s.2.2.1 29, s.2.2.1 30, s.2.2.1 31, s.2.2.1 35, s.2.2.2 23, s.2.2.2 25, s.2.2.2 32, s.2.2.2 33, s.2.2.2 34)
def unvisC (t : TVC) : MS := (fun k => 0, 0, fun k => if k = 22 then t.1 else if k = 24 then t.2.1 else if k = 26 then t.2.2.1 else if k = 27 then t.2.2.2.1 else if k = 28 then t.2.2.2.2.1 else if k = 29 then t.2.2.2.2.2.1 else if k = 30 then t.2.2.2.2.2.2.1 else if k = 31 then t.2.2.2.2.2.2.2.1 else if k = 35 then t.2.2.2.2.2.2.2.2.1 else fun _ => 0, fun k => if k = 23 then t.2.2.2.2.2.2.2.2.2.1 else if k = 25 then t.2.2.2.2.2.2.2.2.2.2.1 else if k = 32 then t.2.2.2.2.2.2.2.2.2.2.2.1 else if k = 33 then t.2.2.2.2.2.2.2.2.2.2.2.2.1 else if k = 34 then t.2.2.2.2.2.2.2.2.2.2.2.2.2 else fun _ => 0)
abbrev TVT : Type := Int64 × (Nat → Int32) × (Nat → Int32) × (Nat → Int32) × (Nat → Int32) × (Nat → Int32) × (Nat → Int32) × (Nat → Int32) × (Nat → Int32) × (Nat → Int32) × (Nat → Int64) × (Nat → Int64) × (Nat → Int64) × (Nat → Int64) × (Nat → Int64) × (Nat → Int64)
def visT (s : MS) : TVT := (s.2.1, s.2.2.1 40, s.2.2.1 41, s.2.2.1 43, s.2.2.1 46, s.2.2.1 47, s.2.2.1 48, s.2.2.1 49, s.2.2.1 50, s.2.2.1 51, s.2.2.2 37, s.2.2.2 38, s.2.2.2 39, s.2.2.2 42, s.2.2.2 44, s.2.2.2 45)
def unvisT (t : TVT) : MS := (fun k => 0, t.1, fun k => if k = 40 then t.2.1 else if k = 41 then t.2.2.1 else if k = 43 then t.2.2.2.1 else if k = 46 then t.2.2.2.2.1 else if k = 47 then t.2.2.2.2.2.1 else if k = 48 then t.2.2.2.2.2.2.1 else if k = 49 then t.2.2.2.2.2.2.2.1 else if k = 50 then t.2.2.2.2.2.2.2.2.1 else if k = 51 then t.2.2.2.2.2.2.2.2.2.1 else fun _ => 0, fun k => if k = 37 then t.2.2.2.2.2.2.2.2.2.2.1 else if k = 38 then t.2.2.2.2.2.2.2.2.2.2.2.1 else if k = 39 then t.2.2.2.2.2.2.2.2.2.2.2.2.1 else if k = 42 then t.2.2.2.2.2.2.2.2.2.2.2.2.2.1 else if k = 44 then t.2.2.2.2.2.2.2.2.2.2.2.2.2.2.1 else if k = 45 then t.2.2.2.2.2.2.2.2.2.2.2.2.2.2.2 else fun _ => 0)
section VIS2
variable {E : Ev} {A : Nat → Prop} {h h' : Hp} {y : Nat → Nat → Nat} {s s' : MS} {n cp : Nat → Nat}
theorem RXn.o (R : RXn s n cp) (e : visO s' = visO s) : RXn s' n cp := by
  have h1 : RXn (unvisO (visO s)) n cp := R
  rw [← e] at h1; exact h1
theorem RXf.o (R : RXf E h y s n) (e : visO s' = visO s) : RXf E h y s' n := by
  have h1 : RXf E h y (unvisO (visO s)) n := R
  rw [← e] at h1; exact h1
theorem RXl.o (R : RXl E h y s n cp) (e : visO s' = visO s) : RXl E h y s' n cp := by
  have h1 : RXl E h y (unvisO (visO s)) n cp := R
  rw [← e] at h1; exact h1
theorem RXm.o (R : RXm E h y s n) (e : visO s' = visO s) : RXm E h y s' n := by
  have h1 : RXm E h y (unvisO (visO s)) n := R
  rw [← e] at h1; exact h1
theorem RXs.o (R : RXs E h y s n) (e : visO s' = visO s) : RXs E h y s' n := by
  have h1 : RXs E h y (unvisO (visO s)) n := R
  rw [← e] at h1; exact h1
theorem RXp.o (R : RXp h y s n) (e : visO s' = visO s) : RXp h y s' n := by
  have h1 : RXp h y (unvisO (visO s)) n := R
  rw [← e] at h1; exact h1
theorem RXc.o (R : RXc h y s n) (e : visC s' = visC s) : RXc h y s' n := by
  have h1 : RXc h y (unvisC (visC s)) n := R
  rw [← e] at h1; exact h1
theorem RXt.o (R : RXt h y s n) (e : visT s' = visT s) : RXt h y s' n := by
  have h1 : RXt h y (unvisT (visT s)) n := R
  rw [← e] at h1; exact h1
theorem lyv.pk {k j : Nat} (hl : lyv n cp k j) : k ≠ 4 ∧ k ≠ 6 ∧ k ≠ 12 ∧ k ≠ 13 ∧ k ≠ 14 ∧ k ≠ 16 := by
  unfold lyv at hl; omega
theorem RXa.py {y' : Nat → Nat → Nat} {n' cp' : Nat → Nat} (Ra : RXa A h y n cp) (hg : ∀ a, a ∈ h.1 → a ∈ h'.1) (hy : ∀ k j, k ≠ 4 → k ≠ 6 → k ≠ 12 → k ≠ 13 → k ≠ 14 → k ≠ 16 → y' k j = y k j) (hl : ∀ k j, lyv n' cp' k j → lyv n cp k j)
    (b3 : ∀ j, j < n' 0 → A (y' 4 j)) (b4 : ∀ j, j < n' 1 → A (y' 6 j)) (b5 : ∀ j, j < n' 5 → A (y' 12 j)) (b6 : ∀ j, j < n' 6 → A (y' 13 j)) (b7 : ∀ j, j < n' 3 → A (y' 14 j)) (b8 : ∀ j, j < n' 7 → A (y' 16 j)) : RXa A h' y' n' cp' := by
  have e : ∀ k j, lyv n' cp' k j → y' k j = y k j := fun k j q => by
    obtain ⟨a1, a2, a3, a4, a5, a6⟩ := q.pk
    exact hy k j a1 a2 a3 a4 a5 a6
  exact ⟨fun a q => Ra.1 a (fun z => q (hg a z)), fun k j q => by rw [e k j q]; exact Ra.2.1 k j (hl k j q), fun k j k' j' q q' z => by rw [e k j q, e k' j' q'] at z; exact Ra.2.2.1 k j k' j' (hl k j q) (hl k' j' q') z, b3, b4, b5, b6, b7, b8⟩
/-- what the class knows of card c -/
def cdv (s : MS) (j : Nat) : Int32 × Int64 × Int32 × Int32 × Int32 × Int32 × Int32 × Int32 × Int32 × Int64 × Int64 × Int64 × Int64 × Int32 := (s.2.2.1 22 j, s.2.2.2 23 j, s.2.2.1 24 j, s.2.2.1 27 j, s.2.2.1 28 j, s.2.2.1 29 j, s.2.2.1 30 j, s.2.2.1 35 j, s.2.2.1 31 j, s.2.2.2 32 j, s.2.2.2 33 j, s.2.2.2 34 j, s.2.2.2 25 j, s.2.2.1 26 j)
def cardL (y : Nat → Nat → Nat) (c p : Nat) (x22 : Int32) (x23 : Int64) (x24 x27 x28 x29 x30 x35 x31 : Int32) : List Value := [.ref (y 0 1), .int (nI c), .int x22, .long x23, .int x24, .int x27, .int x28, .int x29, .int x30, .int x35, .int x31, .ref p]
theorem RXo.cd {c p : Nat} {x22 : Int32} {x23 : Int64} {x24 x27 x28 x29 x30 x35 x31 : Int32} {x32 x33 x34 x25 : Int64} {x26 : Int32} (R : RXo E A h y s n cp) (hc : c < n 0) (g : xg (fun a => a = y 3 c) h h') (hp : p = y 4 c ∨ p ∉ h.1)
    (hv : cdv s' c = (x22, x23, x24, x27, x28, x29, x30, x35, x31, x32, x33, x34, x25, x26)) (hx : xh_at h' (y 3 c) (.inr (2, cardL y c p x22 x23 x24 x27 x28 x29 x30 x35 x31))) (hP : ∃ cc k am un t w a sl, PAY h' p cc k am un t w a sl ∧ (x30 = 2 → cc = nI c ∧ k = x27 ∧ am = x32 ∧ un = x33 ∧ t.toInt64 = x34))
    (hO : visO s' = visO s) (hT : visT s' = visT s) (hC : ∀ j, j ≠ c → cdv s' j = cdv s j) (h25 : x25 = s.2.2.2 25 c) (h26 : x26 = s.2.2.1 26 c) : RXo E A h' (up2 y 4 c p) s' n cp ∧ xg A h h' := by
  obtain ⟨Ra, Rn, Rf, Rl, Rm, Rc, Rt, Rs, Rp⟩ := id R
  have hl : lyv n cp 3 c := ly3 hc
  obtain ⟨c1, -, c3⟩ := Rc c hc
  have hPn : ∀ a fs, xh_at h a (.inr (6, fs)) → ¬ a = y 3 c := nP_obj c1 (by decide)
  have ho : ∀ a, xo_at h a → xo_at h' a := by
    intro a ⟨ci, fs, q1, q2⟩
    by_cases z : a = y 3 c
    · subst z; exact ⟨2, _, by omega, hx⟩
    · exact ⟨ci, fs, q1, g.at q2 z⟩
  have no : ∀ {k j}, lyv n cp k j → (k ≠ 3 ∨ j ≠ c) → ¬ y k j = y 3 c := fun hl' hn => Ra.ne hl' hl hn
  refine ⟨⟨?_, Rn.o hO, ?_, ?_, ?_, ?_, ?_, ?_, ?_⟩, g.mono (fun x _ z => by rw [z]; exact Ra.2.1 3 c hl)⟩
  · refine Ra.py g.1 (fun k j a1 _ _ _ _ _ => ?_) (fun _ _ q => q) (fun j hj => ?_) Ra.2.2.2.2.1 Ra.2.2.2.2.2.1 Ra.2.2.2.2.2.2.1 Ra.2.2.2.2.2.2.2.1 Ra.2.2.2.2.2.2.2.2
    · show va_up y 4 _ k j = _
      rw [va_up_ne _ _ a1]
    show A (va_up (y 4) c p j)
    by_cases z : j = c
    · subst z
      rw [va_up_self]
      rcases hp with rfl | hp
      · exact Ra.2.2.2.1 j hj
      · exact Ra.1 _ hp
    · rw [va_up_ne _ _ z]; exact Ra.2.2.2.1 j hj
  · exact (Rf.g g (fun k hk => no (ly0 hk) (by omega))).o hO
  · exact (Rl.g g ho (fun k h1 h2 => no (ly0 h2) (by omega)) (fun k h1 h2 h3 => no (ly15 h1 h2 h3) (by omega)) (fun t ht => no (ly7 ht) (by omega)) (fun t ht hc' => no (ly8 ht hc') (by omega))).o hO
  · exact (Rm.g g (fun k hk => no (ly1 hk) (by omega)) (fun k hk => no (ly2 hk) (by omega))).o hO
  · intro j hj
    by_cases z : j = c
    · subst z
      have v := hv
      unfold cdv at v
      simp only [Prod.mk.injEq] at v
      obtain ⟨v1, v2, v3, v4, v5, v6, v7, v8, v9, v10, v11, v12, v13, v14⟩ := v
      obtain ⟨cc, k, am, un, t, w, a, sl, e1, e2⟩ := hP
      refine ⟨?_, ⟨cc, k, am, un, t, w, a, sl, ?_, ?_⟩, ?_⟩
      · rw [v1, v2, v3, v4, v5, v6, v7, v8, v9]
        show xh_at h' (y 3 j) (.inr (2, cardL y j (va_up (y 4) j p j) x22 x23 x24 x27 x28 x29 x30 x35 x31))
        rw [va_up_self]; exact hx
      · show PAY h' (va_up (y 4) j p j) cc k am un t w a sl
        rw [va_up_self]; exact e1
      · rw [v7, v4, v10, v11, v12]; exact e2
      · rw [v13, v14, h25, h26]
        exact g.at c3 (no (ly9 hc) (by omega))
    · have v := hC j z
      unfold cdv at v
      simp only [Prod.mk.injEq] at v
      obtain ⟨v1, v2, v3, v4, v5, v6, v7, v8, v9, v10, v11, v12, v13, v14⟩ := v
      obtain ⟨d1, ⟨cc, k, am, un, t, w, a, sl, e1, e2⟩, d3⟩ := Rc j hj
      have e4 : up2 y 4 c p 4 j = y 4 j := by
        show va_up (y 4) c p j = _
        exact va_up_ne _ _ z
      refine ⟨?_, ⟨cc, k, am, un, t, w, a, sl, ?_, ?_⟩, ?_⟩
      · rw [v1, v2, v3, v4, v5, v6, v7, v8, v9, e4]
        exact g.at d1 (no (ly3 hj) (by omega))
      · rw [e4]
        exact g.at e1 (hPn _ _ e1)
      · rw [v7, v4, v10, v11, v12]; exact e2
      · rw [v13, v14]
        exact g.at d3 (no (ly9 hj) (by omega))
  · exact (Rt.g g (fun k hk => no (ly5 hk) (by omega)) hPn).o hT
  · exact (Rs.g g (fun k hk => no (ly10 hk) (by omega)) (fun k hk => no (ly11 hk) (by omega))).o hO
  · have Q := (Rp.g g hPn).o hO
    obtain ⟨p1, p2, p3, p4, p5⟩ := Q
    refine ⟨p1, p2, p3, p4, fun t ht hw => ?_⟩
    obtain ⟨q1, q2, q3⟩ := p5 t ht hw
    refine ⟨q1, fun j hj => ?_, q3⟩
    show va_up (y 4) c p j ≠ y 6 t
    by_cases z : j = c
    · subst z
      rw [va_up_self]
      rcases hp with rfl | hp
      · exact q2 j hj
      · intro e
        obtain ⟨wd, t1, t2, cc, k, am, un, tt, w, a, sl, e1, e2⟩ := Rt t ht
        exact hp (by rw [e]; exact e1.1)
    · rw [va_up_ne _ _ z]; exact q2 j hj
end VIS2
