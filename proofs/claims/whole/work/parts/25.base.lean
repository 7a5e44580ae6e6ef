/-! what the relation and the invariant see of the reference's state (the rest is scratch) -/
abbrev TV : Type := Int32 × Int32 × Int32 × Int32 × Int32 × Int32 × Int32 × Int32 × Int32 × Int64 × (Nat → Int32) × (Nat → Int32) × (Nat → Int32) × (Nat → Int32) × (Nat → Int32) × (Nat → Int32) × (Nat → Int32) × (Nat → Int32) × (Nat → Int32) × (Nat → Int32) × (Nat → Int32) × (Nat → Int32) × (Nat → Int32) × (Nat → Int32) × (Nat → Int32) × (Nat → Int32) × (Nat → Int32) × (Nat → Int32) × (Nat → Int32) × (Nat → Int32) × (Nat → Int32) × (Nat → Int32) × (Nat → Int32) × (Nat → Int32) × (Nat → Int32) × (Nat → Int32) × (Nat → Int32) × (Nat → Int32) × (Nat → Int32) × (Nat → Int64) × (Nat → Int64) × (Nat → Int64) × (Nat → Int64) × (Nat → Int64) × (Nat → Int64) × (Nat → Int64) × (Nat → Int64) × (Nat → Int64) × (Nat → Int64) × (Nat → Int64) × (Nat → Int64) × (Nat → Int64) × (Nat → Int64) × (Nat → Int64) × (Nat → Int64)
def vis (s : MS) : TV := (s.1 21, s.1 36, s.1 6, s.1 61, s.1 0, s.1 57, s.1 59, s.1 53, s.1 20, s.2.1, s.2.2.1 1, s.2.2.1 2, s.2.2.1 7, s.2.2.1 8, s.2.2.1 9, s.2.2.1 10, s.2.2.1 11, s.2.2.1 12, s.2.2.1 19, s.2.2.1 22, s.2.2.1 24, s.2.2.1 26, s.2.2.1 27, s.2.2.1 28, s.2.2.1 29, s.2.2.1 30, s.2.2.1 31, s.2.2.1 35, s.2.2.1 40, s.2.2.1 41, s.2.2.1 43, s.2.2.1 46, s.2.2.1 47, s.2.2.1 48, s.2.2.1 49, s.2.2.1 50, s.2.2.1 51, s.2.2.1 54, s.2.2.1 55, s.2.2.2 3, s.2.2.2 23, s.2.2.2 25, s.2.2.2 32, s.2.2.2 33, s.2.2.2 34, s.2.2.2 37, s.2.2.2 38, s.2.2.2 39, s.2.2.2 42, s.2.2.2 44, s.2.2.2 45, s.2.2.2 56, s.2.2.2 58, s.2.2.2 60, s.2.2.2 62)
def unvis (t : TV) : MS := (fun k => if k = 21 then t.1 else if k = 36 then t.2.1 else if k = 6 then t.2.2.1 else if k = 61 then t.2.2.2.1 else if k = 0 then t.2.2.2.2.1 else if k = 57 then t.2.2.2.2.2.1 else if k = 59 then t.2.2.2.2.2.2.1 else if k = 53 then t.2.2.2.2.2.2.2.1 else if k = 20 then t.2.2.2.2.2.2.2.2.1 else 0, t.2.2.2.2.2.2.2.2.2.1, fun k => if k = 1 then t.2.2.2.2.2.2.2.2.2.2.1 else if k = 2 then t.2.2.2.2.2.2.2.2.2.2.2.1 else if k = 7 then t.2.2.2.2.2.2.2.2.2.2.2.2.1 else if k = 8 then t.2.2.2.2.2.2.2.2.2.2.2.2.2.1 else if k = 9 then t.2.2.2.2.2.2.2.2.2.2.2.2.2.2.1 else if k = 10 then t.2.2.2.2.2.2.2.2.2.2.2.2.2.2.2.1 else if k = 11 then t.2.2.2.2.2.2.2.2.2.2.2.2.2.2.2.2.1 else if k = 12 then t.2.2.2.2.2.2.2.2.2.2.2.2.2.2.2.2.2.1 else if k = 19 then t.2.2.2.2.2.2.2.2.2.2.2.2.2.2.2.2.2.2.1 else if k = 22 then t.2.2.2.2.2.2.2.2.2.2.2.2.2.2.2.2.2.2.2.1 else if k = 24 then t.2.2.2.2.2.2.2.2.2.2.2.2.2.2.2.2.2.2.2.2.1 else if k = 26 then t.2.2.2.2.2.2.2.2.2.2.2.2.2.2.2.2.2.2.2.2.2.1 else if k = 27 then t.2.2.2.2.2.2.2.2.2.2.2.2.2.2.2.2.2.2.2.2.2.2.1 else if k = 28 then t.2.2.2.2.2.2.2.2.2.2.2.2.2.2.2.2.2.2.2.2.2.2.2.1 else if k = 29 then t.2.2.2.2.2.2.2.2.2.2.2.2.2.2.2.2.2.2.2.2.2.2.2.2.1 else if k = 30 then t.2.2.2.2.2.2.2.2.2.2.2.2.2.2.2.2.2.2.2.2.2.2.2.2.2.1 else if k = 31 then t.2.2.2.2.2.2.2.2.2.2.2.2.2.2.2.2.2.2.2.2.2.2.2.2.2.2.1 else if k = 35 then t.2.2.2.2.2.2.2.2.2.2.2.2.2.2.2.2.2.2.2.2.2.2.2.2.2.2.2.1 else if k = 40 then t.2.2.2.2.2.2.2.2.2.2.2.2.2.2.2.2.2.2.2.2.2.2.2.2.2.2.2.2.1 else if k = 41 then t.2.2.2.2.2.2.2.2.2.2.2.2.2.2.2.2.2.2.2.2.2.2.2.2.2.2.2.2.2.1 else if k = 43 then t.2.2.2.2.2.2.2.2.2.2.2.2.2.2.2.2.2.2.2.2.2.2.2.2.2.2.2.2.2.2.1 else if k = 46 then t.2.2.2.2.2.2.2.2.2.2.2.2.2.2.2.2.2.2.2.2.2.2.2.2.2.2.2.2.2.2.2.1 else if k = 47 then t.2.2.2.2.2.2.2.2.2.2.2.2.2.2.2.2.2.2.2.2.2.2.2.2.2.2.2.2.2.2.2.2.1 else if k = 48 then t.2.2.2.2.2.2.2.2.2.2.2.2.2.2.2.2.2.2.2.2.2.2.2.2.2.2.2.2.2.2.2.2.2.1 else if k = 49 then t.2.2.2.2.2.2.2.2.2.2.2.2.2.2.2.2.2.2.2.2.2.2.2.2.2.2.2.2.2.2.2.2.2.2.1 else if k = 50 then t.2.2.2.2.2.2.2.2.2.2.2.2.2.2.2.2.2.2.2.2.2.2.2.2.2.2.2.2.2.2.2.2.2.2.2.1 else if k = 51 then t.2.2.2.2.2.2.2.2.2.2.2.2.2.2.2.2.2.2.2.2.2.2.2.2.2.2.2.2.2.2.2.2.2.2.2.2.1 else if k = 54 then t.2.2.2.2.2.2.2.2.2.2.2.2.2.2.2.2.2.2.2.2.2.2.2.2.2.2.2.2.2.2.2.2.2.2.2.2.2.1 else if k = 55 then t.2.2.2.2.2.2.2.2.2.2.2.2.2.2.2.2.2.2.2.2.2.2.2.2.2.2.2.2.2.2.2.2.2.2.2.2.2.2.1 else fun _ => 0, fun k => if k = 3 then t.2.2.2.2.2.2.2.2.2.2.2.2.2.2.2.2.2.2.2.2.2.2.2.2.2.2.2.2.2.2.2.2.2.2.2.2.2.2.2.1 else if k = 23 then t.2.2.2.2.2.2.2.2.2.2.2.2.2.2.2.2.2.2.2.2.2.2.2.2.2.2.2.2.2.2.2.2.2.2.2.2.2.2.2.2.1 else if k = 25 then t.2.2.2.2.2.2.2.2.2.2.2.2.2.2.2.2.2.2.2.2.2.2.2.2.2.2.2.2.2.2.2.2.2.2.2.2.2.2.2.2.2.1 else if k = 32 then t.2.2.2.2.2.2.2.2.2.2.2.2.2.2.2.2.2.2.2.2.2.2.2.2.2.2.2.2.2.2.2.2.2.2.2.2.2.2.2.2.2.2.1 else if k = 33 then t.2.2.2.2.2.2.2.2.2.2.2.2.2.2.2.2.2.2.2.2.2.2.2.2.2.2.2.2.2.2.2.2.2.2.2.2.2.2.2.2.2.2.2.1 else if k = 34 then t.2.2.2.2.2.2.2.2.2.2.2.2.2.2.2.2.2.2.2.2.2.2.2.2.2.2.2.2.2.2.2.2.2.2.2.2.2.2.2.2.2.2.2.2.1 else if k = 37 then t.2.2.2.2.2.2.2.2.2.2.2.2.2.2.2.2.2.2.2.2.2.2.2.2.2.2.2.2.2.2.2.2.2.2.2.2.2.2.2.2.2.2.2.2.2.1 else if k = 38 then t.2.2.2.2.2.2.2.2.2.2.2.2.2.2.2.2.2.2.2.2.2.2.2.2.2.2.2.2.2.2.2.2.2.2.2.2.2.2.2.2.2.2.2.2.2.2.1 else if k = 39 then t.2.2.2.2.2.2.2.2.2.2.2.2.2.2.2.2.2.2.2.2.2.2.2.2.2.2.2.2.2.2.2.2.2.2.2.2.2.2.2.2.2.2.2.2.2.2.2.1 else if k = 42 then t.2.2.2.2.2.2.2.2.2.2.2.2.2.2.2.2.2.2.2.2.2.2.2.2.2.2.2.2.2.2.2.2.2.2.2.2.2.2.2.2.2.2.2.2.2.2.2.2.1 else if k = 44 then t.2.2.2.2.2.2.2.2.2.2.2.2.2.2.2.2.2.2.2.2.2.2.2.2.2.2.2.2.2.2.2.2.2.2.2.2.2.2.2.2.2.2.2.2.2.2.2.2.2.1 else if k = 45 then t.2.2.2.2.2.2.2.2.2.2.2.2.2.2.2.2.2.2.2.2.2.2.2.2.2.2.2.2.2.2.2.2.2.2.2.2.2.2.2.2.2.2.2.2.2.2.2.2.2.2.1 else if k = 56 then t.2.2.2.2.2.2.2.2.2.2.2.2.2.2.2.2.2.2.2.2.2.2.2.2.2.2.2.2.2.2.2.2.2.2.2.2.2.2.2.2.2.2.2.2.2.2.2.2.2.2.2.1 else if k = 58 then t.2.2.2.2.2.2.2.2.2.2.2.2.2.2.2.2.2.2.2.2.2.2.2.2.2.2.2.2.2.2.2.2.2.2.2.2.2.2.2.2.2.2.2.2.2.2.2.2.2.2.2.2.1 else if k = 60 then t.2.2.2.2.2.2.2.2.2.2.2.2.2.2.2.2.2.2.2.2.2.2.2.2.2.2.2.2.2.2.2.2.2.2.2.2.2.2.2.2.2.2.2.2.2.2.2.2.2.2.2.2.2.1 else if k = 62 then t.2.2.2.2.2.2.2.2.2.2.2.2.2.2.2.2.2.2.2.2.2.2.2.2.2.2.2.2.2.2.2.2.2.2.2.2.2.2.2.2.2.2.2.2.2.2.2.2.2.2.2.2.2.2 else fun _ => 0)
theorem RXo.eqv {E : Ev} {A : Nat → Prop} {h : Hp} {y : Nat → Nat → Nat} {s s1 : MS} {n cp : Nat → Nat} (R : RXo E A h y s n cp) (e : vis s1 = vis s) : RXo E A h y s1 n cp := by
  have h1 : RXo E A h y (unvis (vis s)) n cp := R
  rw [← e] at h1
  exact h1
theorem cK_of {kc ks : Nat} (mc ms : Nat) {P : Nat → Nat → Nat → Nat → Prop} (h1 : mc ≤ kc) (h2 : ms ≤ ks) (p : P mc ms (kc - mc) (ks - ms)) : cK kc ks P := ⟨mc, ms, _, _, by omega, by omega, p⟩
def up2 (y : Nat → Nat → Nat) (k j q : Nat) : Nat → Nat → Nat := va_up y k (va_up (y k) j q)
/-- addresses of the layout, of those kinds -/
def YS (y : Nat → Nat → Nat) (n cp : Nat → Nat) (P : Nat → Nat → Prop) (a : Nat) : Prop := ∃ k j, lyv n cp k j ∧ P k j ∧ a = y k j
section BASE
variable {E : Ev} {A : Nat → Prop} {h h' : Hp} {y y' : Nat → Nat → Nat} {s : MS} {n n' cp cp' : Nat → Nat} {P P' : Nat → Nat → Prop}
theorem YS.no (Ra : RXa A h y n cp) {k j : Nat} (hl : lyv n cp k j) (hp : ¬ P k j) : ¬ YS y n cp P (y k j) := by
  rintro ⟨k', j', h1, h2, h3⟩
  obtain ⟨rfl, rfl⟩ := Ra.2.2.1 k j k' j' hl h1 h3
  exact hp h2
theorem YS.k (Ra : RXa A h y n cp) (g : xg (YS y n cp P) h h') {k j : Nat} {e : va_E} (hl : lyv n cp k j) (hp : ¬ P k j) (hx : xh_at h (y k j) e) : xh_at h' (y k j) e := g.at hx (YS.no Ra hl hp)
theorem YS.a (Ra : RXa A h y n cp) (g : xg (YS y n cp P) h h') : xg A h h' := g.mono (fun x _ q => by obtain ⟨k, j, h1, _, rfl⟩ := q; exact Ra.2.1 k j h1)
theorem YS.m (g : xg (YS y n cp P) h h') (hP : ∀ k j, P k j → P' k j) : xg (YS y n cp P') h h' := g.mono (fun x _ q => by obtain ⟨k, j, h1, h2, h3⟩ := q; exact ⟨k, j, h1, hP k j h2, h3⟩)
theorem YS.st {k j : Nat} {e : va_E} (hl : lyv n cp k j) (hp : P k j) : xg (YS y n cp P) h (xh_set h (y k j) e) := xg.set ⟨k, j, hl, hp, rfl⟩
/-- what an address of the layout holds is no payment -/
theorem RXo.ly (R : RXo E A h y s n cp) {k j : Nat} (hl : lyv n cp k j) : ∃ e, xh_at h (y k j) e ∧ ∀ fs, e ≠ .inr (6, fs) := by
  obtain ⟨Ra, Rn, ⟨f0, f1, f2, f3, ⟨fw, f4, -⟩, ⟨sz, so, nu, f5⟩, ⟨g6, f6⟩, ⟨x7, y7, z7, f7⟩, ⟨x8, y8, z8, f8⟩, ⟨g9, f9⟩, ⟨g10, f10⟩, ⟨g11, f11, -⟩⟩, Rl, Rm, Rc, Rt, Rs, Rp⟩ := R
  have o : ∀ {a ci fs}, xh_at h a (.inr (ci, fs)) → ci ≠ 6 → ∃ e, xh_at h a e ∧ ∀ fs, e ≠ .inr (6, fs) := fun hx hc => ⟨_, hx, fun fs q => by injection q with q; injection q with q; exact hc q⟩
  have ar : ∀ {a e}, xh_at h a (.inl e) → ∃ e, xh_at h a e ∧ ∀ fs, e ≠ .inr (6, fs) := fun hx => ⟨_, hx, fun fs q => by cases q⟩
  have al : ∀ {l d m c : Nat} {el : Nat → Nat}, AL E h l d m c el → ∃ e, xh_at h l e ∧ ∀ fs, e ≠ .inr (6, fs) := fun hx => by obtain ⟨md, h1, _⟩ := hx; exact o h1 (by decide)
  have ad : ∀ {l d m c : Nat} {el : Nat → Nat}, AL E h l d m c el → c ≠ 0 → ∃ e, xh_at h d e ∧ ∀ fs, e ≠ .inr (6, fs) := fun hx hc => by
    obtain ⟨md, h1, h2, h3 | ⟨h3, f, h4, _⟩⟩ := hx
    · exact absurd h3.1 hc
    · exact ar h4
  obtain ⟨l0, l1, l2, l3, l4, l5, l6, l7⟩ := Rl
  rcases hl with ⟨rfl, hj⟩ | ⟨rfl | rfl, hj⟩ | ⟨rfl | rfl, hj⟩ | ⟨rfl | rfl, hj⟩ | ⟨rfl | rfl, hj⟩ | ⟨rfl, hj, hj2, hc⟩ | ⟨rfl, hj, hc⟩
  · match j, hj with
    | 0, _ => exact o f0 (by decide)
    | 1, _ => exact o f1 (by decide)
    | 2, _ => exact o f2 (by decide)
    | 3, _ => exact o f3 (by decide)
    | 4, _ => exact o f5 (by decide)
    | 5, _ => exact o f7 (by decide)
    | 6, _ => exact o f8 (by decide)
    | 7, _ => exact ar f9
    | 8, _ => exact ar f10
    | 9, _ => exact ar f11
    | 10, _ => exact ar f4
    | 11, _ => exact ar f6
    | 12, _ => exact al l0
    | 13, _ => exact al l1
    | 14, _ => exact al l2
    | 15, _ => exact al l3
    | 16, _ => exact al l4
    | 17, _ => exact al l5
    | 18, _ => exact al l6
    | k + 19, hj => omega
  · obtain ⟨a, b, c, d, sz, f, m1, m2, -⟩ := Rm j hj; exact o m1 (by decide)
  · obtain ⟨a, b, c, d, sz, f, m1, m2, -⟩ := Rm j hj; exact ar m2
  · exact o (Rc j hj).1 (by decide)
  · exact o (Rc j hj).2.2 (by decide)
  · obtain ⟨wd, t1, -⟩ := Rt j hj; exact o t1 (by decide)
  · exact al (l7.1 j hj)
  · obtain ⟨so, nu, len, f, s1, s2, -⟩ := Rs j hj; exact o s1 (by decide)
  · obtain ⟨so, nu, len, f, s1, s2, -⟩ := Rs j hj; exact ar s2
  · match j, hj, hj2 with
    | 12, _, _ => exact ad l0 hc
    | 13, _, _ => exact ad l1 hc
    | 14, _, _ => exact ad l2 hc
    | 15, _, _ => exact ad l3 hc
    | 16, _, _ => exact ad l4 hc
    | 17, _, _ => exact ad l5 hc
    | 18, _, _ => exact ad l6 hc
    | k + 19, _, hj => omega
  · exact ad (l7.1 j hj) hc
theorem RXo.lyin (R : RXo E A h y s n cp) {k j : Nat} (hl : lyv n cp k j) : y k j ∈ h.1 := by
  obtain ⟨e, h1, _⟩ := R.ly hl
  exact h1.1
/-- a payment stays through writes at the layout's addresses -/
theorem RXo.pay (R : RXo E A h y s n cp) (g : xg (YS y n cp P) h h') {p : Nat} {fs : List Value} (hp : xh_at h p (.inr (6, fs))) : xh_at h' p (.inr (6, fs)) := by
  refine g.at hp ?_
  rintro ⟨k, j, h1, h2, rfl⟩
  obtain ⟨e, q1, q2⟩ := R.ly h1
  exact q2 fs (q1.2.symm.trans hp.2)
theorem RXa.ext (R : RXo E A h y s n cp) (hg : ∀ a, a ∈ h.1 → a ∈ h'.1) (hx : ∀ k j, lyv n' cp' k j → (lyv n cp k j ∧ y' k j = y k j) ∨ y' k j ∉ h.1)
    (hnn : ∀ k j k' j', lyv n' cp' k j → lyv n' cp' k' j' → y' k j ∉ h.1 → y' k' j' ∉ h.1 → y' k j = y' k' j' → k = k' ∧ j = j')
    (b3 : ∀ j, j < n' 0 → A (y' 4 j)) (b4 : ∀ j, j < n' 1 → A (y' 6 j)) (b5 : ∀ j, j < n' 5 → A (y' 12 j)) (b6 : ∀ j, j < n' 6 → A (y' 13 j)) (b7 : ∀ j, j < n' 3 → A (y' 14 j)) (b8 : ∀ j, j < n' 7 → A (y' 16 j)) : RXa A h' y' n' cp' := by
  have Ra := R.1
  refine ⟨fun a q => Ra.1 a (fun z => q (hg a z)), fun k j hl => ?_, fun k j k' j' h1 h2 e => ?_, b3, b4, b5, b6, b7, b8⟩
  · rcases hx k j hl with ⟨q1, q2⟩ | q
    · rw [q2]; exact Ra.2.1 k j q1
    · exact Ra.1 _ q
  · rcases hx k j h1 with ⟨q1, q2⟩ | q
    · rcases hx k' j' h2 with ⟨q3, q4⟩ | q'
      · exact Ra.2.2.1 k j k' j' q1 q3 (by rw [← q2, ← q4]; exact e)
      · exact absurd (by rw [← e, q2]; exact R.lyin q1) q'
    · rcases hx k' j' h2 with ⟨q3, q4⟩ | q'
      · exact absurd (by rw [e, q4]; exact R.lyin q3) q
      · exact hnn k j k' j' h1 h2 q q' e
/-- the class's own scratch: the row to be sealed, what came, what goes -/
def fit (E : Ev) (y : Nat → Nat → Nat) (j : Nat) (e : va_E) : Prop :=
  (j = 4 ∧ ∃ sz so nu, e = .inr (8, [.ref (y 0 16), .ref (y 0 11), .int sz, .int so, .int nu])) ∨ (j = 11 ∧ ∃ f, e = .inl (E.1 1, 8, .inr (.inl f))) ∨ (j = 5 ∧ ∃ a b c, e = .inr (3, [.int a, .int b, .int c, .ref (y 0 7)])) ∨ (j = 6 ∧ ∃ a b c, e = .inr (3, [.int a, .int b, .int c, .ref (y 0 8)])) ∨ (j = 7 ∧ ∃ f, e = .inl (E.1 1, 12, .inr (.inl f))) ∨ (j = 8 ∧ ∃ f, e = .inl (E.1 1, 12, .inr (.inl f)))
theorem RXo.tmp (R : RXo E A h y s n cp) {j : Nat} {e : va_E} (hf : fit E y j e) : RXo E A (xh_set h (y 0 j) e) y s n cp := by
  have hj : j ≤ 11 := by rcases hf with ⟨q, _⟩ | ⟨q, _⟩ | ⟨q, _⟩ | ⟨q, _⟩ | ⟨q, _⟩ | ⟨q, _⟩ <;> omega
  obtain ⟨Ra, Rn, Rf, Rl, Rm, Rc, Rt, Rs, Rp⟩ := id R
  obtain ⟨f0, f1, f2, f3, ⟨fw, f4, f4'⟩, ⟨sz, so, nu, f5⟩, ⟨g6, f6⟩, ⟨x7, y7, z7, f7⟩, ⟨x8, y8, z8, f8⟩, ⟨g9, f9⟩, ⟨g10, f10⟩, ⟨g11, f11, f11'⟩⟩ := id Rf
  have kk : ∀ {i e'}, i ≤ 18 → i ≠ j → xh_at h (y 0 i) e' → xh_at (xh_set h (y 0 j) e) (y 0 i) e' := fun hi hne hx => hx.ne (Ra.ne (ly0 hi) (ly0 (by omega)) (by omega))
  have main : ∀ {e0 : va_E}, xh_at h (y 0 j) e0 → ((∃ ci fs, 1 ≤ ci ∧ e0 = .inr (ci, fs)) → ∃ ci fs, 1 ≤ ci ∧ e = .inr (ci, fs)) → RXf E (xh_set h (y 0 j) e) y s n → RXo E A (xh_set h (y 0 j) e) y s n cp := by
    intro e0 hb hk F
    have hp : ∀ fs, e0 ≠ .inr (6, fs) := by
      obtain ⟨e1, q1, q2⟩ := R.ly (ly0 (j := j) (by omega))
      rw [← hb.2, q1.2]; exact q2
    obtain ⟨-, Ra1, -, Rl1, Rm1, Rc1, Rt1, Rs1, Rp1⟩ := R.put1 (ly0 (j := j) (by omega)) hb hk hp
    exact ⟨Ra1, Rn, F, Rl1 (by omega) (by omega) (by omega) (by omega), Rm1 (by omega) (by omega), Rc1 (by omega) (by omega), Rt1 (by omega), Rs1 (by omega) (by omega), Rp1⟩
  rcases hf with ⟨rfl, sz', so', nu', rfl⟩ | ⟨rfl, f', rfl⟩ | ⟨rfl, a', b', c', rfl⟩ | ⟨rfl, a', b', c', rfl⟩ | ⟨rfl, f', rfl⟩ | ⟨rfl, f', rfl⟩
  · exact main f5 (fun _ => ⟨8, _, by omega, rfl⟩) ⟨kk (by omega) (by omega) f0, kk (by omega) (by omega) f1, kk (by omega) (by omega) f2, kk (by omega) (by omega) f3, ⟨fw, kk (by omega) (by omega) f4, f4'⟩, ⟨_, _, _, f5.set⟩, ⟨g6, kk (by omega) (by omega) f6⟩, ⟨x7, y7, z7, kk (by omega) (by omega) f7⟩, ⟨x8, y8, z8, kk (by omega) (by omega) f8⟩, ⟨g9, kk (by omega) (by omega) f9⟩, ⟨g10, kk (by omega) (by omega) f10⟩, ⟨g11, kk (by omega) (by omega) f11, f11'⟩⟩
  · exact main f6 (fun q => by obtain ⟨_, _, _, q⟩ := q; cases q) ⟨kk (by omega) (by omega) f0, kk (by omega) (by omega) f1, kk (by omega) (by omega) f2, kk (by omega) (by omega) f3, ⟨fw, kk (by omega) (by omega) f4, f4'⟩, ⟨sz, so, nu, kk (by omega) (by omega) f5⟩, ⟨_, f6.set⟩, ⟨x7, y7, z7, kk (by omega) (by omega) f7⟩, ⟨x8, y8, z8, kk (by omega) (by omega) f8⟩, ⟨g9, kk (by omega) (by omega) f9⟩, ⟨g10, kk (by omega) (by omega) f10⟩, ⟨g11, kk (by omega) (by omega) f11, f11'⟩⟩
  · exact main f7 (fun _ => ⟨3, _, by omega, rfl⟩) ⟨kk (by omega) (by omega) f0, kk (by omega) (by omega) f1, kk (by omega) (by omega) f2, kk (by omega) (by omega) f3, ⟨fw, kk (by omega) (by omega) f4, f4'⟩, ⟨sz, so, nu, kk (by omega) (by omega) f5⟩, ⟨g6, kk (by omega) (by omega) f6⟩, ⟨_, _, _, f7.set⟩, ⟨x8, y8, z8, kk (by omega) (by omega) f8⟩, ⟨g9, kk (by omega) (by omega) f9⟩, ⟨g10, kk (by omega) (by omega) f10⟩, ⟨g11, kk (by omega) (by omega) f11, f11'⟩⟩
  · exact main f8 (fun _ => ⟨3, _, by omega, rfl⟩) ⟨kk (by omega) (by omega) f0, kk (by omega) (by omega) f1, kk (by omega) (by omega) f2, kk (by omega) (by omega) f3, ⟨fw, kk (by omega) (by omega) f4, f4'⟩, ⟨sz, so, nu, kk (by omega) (by omega) f5⟩, ⟨g6, kk (by omega) (by omega) f6⟩, ⟨x7, y7, z7, kk (by omega) (by omega) f7⟩, ⟨_, _, _, f8.set⟩, ⟨g9, kk (by omega) (by omega) f9⟩, ⟨g10, kk (by omega) (by omega) f10⟩, ⟨g11, kk (by omega) (by omega) f11, f11'⟩⟩
  · exact main f9 (fun q => by obtain ⟨_, _, _, q⟩ := q; cases q) ⟨kk (by omega) (by omega) f0, kk (by omega) (by omega) f1, kk (by omega) (by omega) f2, kk (by omega) (by omega) f3, ⟨fw, kk (by omega) (by omega) f4, f4'⟩, ⟨sz, so, nu, kk (by omega) (by omega) f5⟩, ⟨g6, kk (by omega) (by omega) f6⟩, ⟨x7, y7, z7, kk (by omega) (by omega) f7⟩, ⟨x8, y8, z8, kk (by omega) (by omega) f8⟩, ⟨_, f9.set⟩, ⟨g10, kk (by omega) (by omega) f10⟩, ⟨g11, kk (by omega) (by omega) f11, f11'⟩⟩
  · exact main f10 (fun q => by obtain ⟨_, _, _, q⟩ := q; cases q) ⟨kk (by omega) (by omega) f0, kk (by omega) (by omega) f1, kk (by omega) (by omega) f2, kk (by omega) (by omega) f3, ⟨fw, kk (by omega) (by omega) f4, f4'⟩, ⟨sz, so, nu, kk (by omega) (by omega) f5⟩, ⟨g6, kk (by omega) (by omega) f6⟩, ⟨x7, y7, z7, kk (by omega) (by omega) f7⟩, ⟨x8, y8, z8, kk (by omega) (by omega) f8⟩, ⟨g9, kk (by omega) (by omega) f9⟩, ⟨_, f10.set⟩, ⟨g11, kk (by omega) (by omega) f11, f11'⟩⟩
end BASE
