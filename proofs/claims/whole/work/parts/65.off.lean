/-! a message is taken off -/
def pm (k m j : Nat) : Nat := if k ≤ j ∧ j < m then j + 1 else if j = m then k else j
def yO (y : Nat → Nat → Nat) (k m : Nat) : Nat → Nat → Nat := va_up (va_up y 1 (fun j => y 1 (pm k m j))) 2 (fun j => y 2 (pm k m j))
section OFF
variable {E : Ev} {A S : Nat → Prop} {h h' : Hp} {y y' : Nat → Nat → Nat} {s s' : MS} {n cp n' cp' : Nat → Nat} {i u k m : Nat}
theorem aR_of {t a N j : Nat} {f : Nat → Option Nat} {z : Int32} {x : Option Nat} {P : Option Nat → Prop} (hx : xh_at h a (.inl (E.1 t, N, .inr (.inr (.inr (.inr f)))))) (hi : z = nI j) (hj : j < N) (hn : N < 2 ^ 31) (hf : f j = x) (p : P x) : aR E h t a z P := by
  subst hi
  exact ⟨N, f, x, hx, vp_in_nI hj hn, by rw [nI_clamp (by omega)]; exact hf, p⟩
theorem sR_of {t a N j : Nat} {f : Nat → Option Nat} {z : Int32} {x : Option Nat} {P : Hp → Prop} (hx : xh_at h a (.inl (E.1 t, N, .inr (.inr (.inr (.inr f)))))) (hi : z = nI j) (hj : j < N) (hn : N < 2 ^ 31) (p : P (xh_set h a (.inl (E.1 t, N, .inr (.inr (.inr (.inr (va_up f j x)))))))) : sR E h t a z x P := by
  subst hi
  exact ⟨N, f, hx, vp_in_nI hj hn, _, rfl, by rw [nI_clamp (by omega)]; exact p⟩
theorem yO_1 (j : Nat) : yO y k m 1 j = y 1 (pm k m j) := rfl
theorem yO_2 (j : Nat) : yO y k m 2 j = y 2 (pm k m j) := rfl
theorem yO_o {a : Nat} (h1 : a ≠ 1) (h2 : a ≠ 2) (j : Nat) : yO y k m a j = y a j := by
  unfold yO
  rw [va_up_ne _ _ h2, va_up_ne _ _ h1]
theorem pm_lt {j N : Nat} (hk : k ≤ m) (hm : m < N) (hj : j < N) : pm k m j < N := by
  unfold pm
  split
  · omega
  · split <;> omega
theorem pm_inj {j j' : Nat} (hk : k ≤ m) (e : pm k m j = pm k m j') : j = j' := by
  unfold pm at e
  split at e <;> split at e <;> (try split at e) <;> (try split at e) <;> omega
theorem remS_A {q : Nat} (hq : q < 7 ∨ 12 < q) : (remS s k m).2.2.1 q = s.2.2.1 q := by
  show (if 7 ≤ q ∧ q ≤ 11 then _ else if q = 12 then _ else s.2.2.1 q) = _
  rw [if_neg (by omega), if_neg (by omega)]
theorem remS_7 {q j : Nat} (h1 : 7 ≤ q) (h2 : q ≤ 11) (hj : j < m) : (remS s k m).2.2.1 q j = s.2.2.1 q (pm k m j) := by
  show (if 7 ≤ q ∧ q ≤ 11 then shA k (if q = 12 then 64 * m else m) (s.2.2.1 q) 1 else _) j = _
  rw [if_pos ⟨h1, h2⟩, if_neg (by omega)]
  unfold shA pm
  by_cases z : k ≤ j ∧ j < m
  · rw [if_pos z, if_pos z]
  · rw [if_neg z, if_neg z, if_neg (by omega)]
theorem remS_f : (remS s k m).2.2.1 12 = shA (64 * k) (64 * m) (s.2.2.1 12) 64 := rfl
theorem remS_12 {j a : Nat} (hj : j < m) (ha : a < 64) : (remS s k m).2.2.1 12 (64 * j + a) = s.2.2.1 12 (64 * pm k m j + a) := by
  rw [remS_f]
  unfold shA pm
  by_cases z : k ≤ j ∧ j < m
  · rw [if_pos (show 64 * k ≤ 64 * j + a ∧ 64 * j + a < 64 * m by omega), if_pos z]
    exact congrArg (s.2.2.1 12) (by omega)
  · rw [if_neg (by omega), if_neg z, if_neg (by omega)]
theorem remS_s {q j : Nat} (h1 : 7 ≤ q) (h2 : q ≤ 11) : ∃ a, (j < 60 → m < 60 → a < 60) ∧ (remS s k m).2.2.1 q j = s.2.2.1 q a := by
  show ∃ a, _ ∧ (if 7 ≤ q ∧ q ≤ 11 then shA k (if q = 12 then 64 * m else m) (s.2.2.1 q) 1 else _) j = _
  rw [if_pos ⟨h1, h2⟩, if_neg (by omega)]
  unfold shA
  by_cases z : k ≤ j ∧ j < m
  · exact ⟨j + 1, fun _ _ => by omega, by rw [if_pos z]⟩
  · exact ⟨j, fun q _ => q, by rw [if_neg z]⟩
theorem remS_b {a : Nat} (hm : m < 60) (ha : a < 3840) : ∃ a', a' < 3840 ∧ (remS s k m).2.2.1 12 a = s.2.2.1 12 a' := by
  rw [remS_f]
  unfold shA
  by_cases z : 64 * k ≤ a ∧ a < 64 * m
  · exact ⟨a + 64, by omega, by rw [if_pos z]⟩
  · exact ⟨a, ha, by rw [if_neg z]⟩
theorem RXo.off (R : RXo E A h y s n cp) (hsz : ∀ j, j < 60 → s.2.2.1 11 j ≤ 64) (hm : n 2 = m + 1) (hk : k ≤ m) {fw : Nat → Option Nat} (g : xg (fun a => a = y 0 3 ∨ a = y 0 10) h h') (h3 : xh_at h' (y 0 3) (.inr (10, [.ref (y 0 10), .int (nI m)]))) (hw : xh_at h' (y 0 10) (.inl (E.1 3, 60, .inr (.inr (.inr (.inr fw)))))) (hf : ∀ j, j < 60 → fw j = if j < n 9 then some (y 1 (pm k m j)) else none) :
    RXo E A h' (yO y k m) (remS s k m) (va_up n 2 m) cp ∧ xg A h h' := by
  obtain ⟨Ra, Rn, Rf, Rl, Rm, Rc, Rt, Rs, Rp⟩ := id R
  have hn9 := Rn.2.2.1.2
  obtain ⟨f0, f1, f2, f3, f4, f5, f6, f7, f8, f9, f10, f11⟩ := Rf
  have no : ∀ {a j}, lyv n cp a j → ¬ (a = 0 ∧ (j = 3 ∨ j = 10)) → ¬ (y a j = y 0 3 ∨ y a j = y 0 10) := by
    intro a j hl hn z
    rcases z with z | z
    · exact Ra.ne hl (ly0 (by omega)) (by omega) z
    · exact Ra.ne hl (ly0 (by omega)) (by omega) z
  obtain ⟨fw0, f4, -⟩ := f4
  have hP : ∀ a fs, xh_at h a (.inr (6, fs)) → ¬ (a = y 0 3 ∨ a = y 0 10) := by
    intro a fs ha z
    rcases z with z | z
    · exact nP_obj f3 (by decide) _ _ ha z
    · exact nP_arr f4 _ _ ha z
  have ho : ∀ a, xo_at h a → xo_at h' a := by
    intro a ⟨ci, fs, q1, q2⟩
    by_cases z : a = y 0 3 ∨ a = y 0 10
    · rcases z with z | z
      · rw [z]; exact ⟨10, _, by omega, h3⟩
      · rw [z] at q2
        have := q2.2.symm.trans f4.2
        cases this
    · exact ⟨ci, fs, q1, g.at q2 z⟩
  have k0 : ∀ {j e}, j ≤ 18 → j ≠ 3 → j ≠ 10 → xh_at h (y 0 j) e → xh_at h' (y 0 j) e := fun h1 h2 h3 hx => g.at hx (no (ly0 h1) (by omega))
  have lyE : ∀ a j, lyv (va_up n 2 m) cp a j ↔ lyv n cp a j := fun a j => Iff.rfl
  have pf : ∀ a j, lyv n cp a j → ∃ j', lyv n cp a j' ∧ yO y k m a j = y a j' ∧ ((a = 1 ∨ a = 2) ∧ j' = pm k m j ∨ ¬ (a = 1 ∨ a = 2) ∧ j' = j) := by
    intro a j hl
    by_cases z : a = 1 ∨ a = 2
    · have hj : j < n 9 := by
        unfold lyv at hl
        omega
      have hp := pm_lt (k := k) (m := m) (N := n 9) hk (by omega) hj
      rcases z with rfl | rfl
      · exact ⟨pm k m j, ly1 hp, rfl, Or.inl ⟨Or.inl rfl, rfl⟩⟩
      · exact ⟨pm k m j, ly2 hp, rfl, Or.inl ⟨Or.inr rfl, rfl⟩⟩
    · exact ⟨j, hl, yO_o (by omega) (by omega) j, Or.inr ⟨z, rfl⟩⟩
  refine ⟨⟨?_, ?_, ?_, ?_, ?_, ?_, ?_, ?_, ?_⟩, g.mono (fun x _ z => by
    rcases z with z | z
    · rw [z]; exact Ra.2.1 0 3 (ly0 (by omega))
    · rw [z]; exact Ra.2.1 0 10 (ly0 (by omega)))⟩
  · refine ⟨fun a q => Ra.1 a (fun z => q (g.1 a z)), fun a j q => ?_, fun a j a' j' q q' e => ?_, Ra.2.2.2⟩
    · obtain ⟨j', l', e', -⟩ := pf a j q
      rw [e']
      exact Ra.2.1 a j' l'
    · obtain ⟨j1, l1, e1, c1⟩ := pf a j q
      obtain ⟨j2, l2, e2, c2⟩ := pf a' j' q'
      rw [e1, e2] at e
      obtain ⟨ea, ej⟩ := Ra.2.2.1 a j1 a' j2 l1 l2 e
      subst ea
      refine ⟨rfl, ?_⟩
      rcases c1 with ⟨z1, w1⟩ | ⟨z1, w1⟩
      · rcases c2 with ⟨z2, w2⟩ | ⟨z2, w2⟩
        · rw [w1, w2] at ej
          exact pm_inj hk ej
        · exact absurd z1 z2
      · rcases c2 with ⟨z2, w2⟩ | ⟨z2, w2⟩
        · exact absurd z2 z1
        · rw [← w1, ← w2, ej]
  · obtain ⟨r0, r1, r2, r3, r4, r5, r6, r7, r8, r9, r10⟩ := Rn
    exact ⟨r0, r1, ⟨rfl, by show m ≤ n 9; omega, r2.2.2⟩, r3, r4, r5, r6, r7, r8, r9, r10⟩
  · obtain ⟨sz, so, nu, f5⟩ := f5
    obtain ⟨g6, f6⟩ := f6
    obtain ⟨x7, y7, z7, f7⟩ := f7
    obtain ⟨x8, y8, z8, f8⟩ := f8
    obtain ⟨g9, f9⟩ := f9
    obtain ⟨g10, f10⟩ := f10
    obtain ⟨g11, f11, f11'⟩ := f11
    exact ⟨k0 (by omega) (by omega) (by omega) f0, k0 (by omega) (by omega) (by omega) f1, k0 (by omega) (by omega) (by omega) f2, h3, ⟨fw, hw, hf⟩, ⟨sz, so, nu, k0 (by omega) (by omega) (by omega) f5⟩, ⟨g6, k0 (by omega) (by omega) (by omega) f6⟩, ⟨x7, y7, z7, k0 (by omega) (by omega) (by omega) f7⟩, ⟨x8, y8, z8, k0 (by omega) (by omega) (by omega) f8⟩, ⟨g9, k0 (by omega) (by omega) (by omega) f9⟩, ⟨g10, k0 (by omega) (by omega) (by omega) f10⟩, ⟨g11, k0 (by omega) (by omega) (by omega) f11, f11'⟩⟩
  · have ho' : ∀ {l d M c : Nat} {el : Nat → Nat}, AL E h l d M c el → ¬ (l = y 0 3 ∨ l = y 0 10) → (c ≠ 0 → ¬ (d = y 0 3 ∨ d = y 0 10)) → AL E h' l d M c el := fun al q1 q2 => al.g2 g ho q1 q2
    obtain ⟨l0, l1, l2, l3, l4, l5, l6, l7⟩ := Rl
    refine ⟨ho' l0 (no (ly0 (by omega)) (by omega)) (fun q => no (ly15 (by omega) (by omega) q) (by omega)), ho' l1 (no (ly0 (by omega)) (by omega)) (fun q => no (ly15 (by omega) (by omega) q) (by omega)), ho' l2 (no (ly0 (by omega)) (by omega)) (fun q => no (ly15 (by omega) (by omega) q) (by omega)), ho' l3 (no (ly0 (by omega)) (by omega)) (fun q => no (ly15 (by omega) (by omega) q) (by omega)), ho' l4 (no (ly0 (by omega)) (by omega)) (fun q => no (ly15 (by omega) (by omega) q) (by omega)), ho' l5 (no (ly0 (by omega)) (by omega)) (fun q => no (ly15 (by omega) (by omega) q) (by omega)), ho' l6 (no (ly0 (by omega)) (by omega)) (fun q => no (ly15 (by omega) (by omega) q) (by omega)), fun t ht => ?_, l7.2⟩
    have eb : bl (remS s k m) (va_up n 2 m 7) t = bl s (n 7) t := by
      show bl (remS s k m) (n 7) t = _
      exact bl_c (fun b _ => by rw [remS_A (by omega), remS_A (by omega)]; exact ⟨rfl, rfl⟩)
    rw [eb]
    exact ho' (l7.1 t ht) (no (ly7 ht) (by omega)) (fun q => no (ly8 ht q) (by omega))
  · intro j hj
    have hj : j < n 9 := hj
    have hp := pm_lt (k := k) (m := m) (N := n 9) hk (by omega) hj
    obtain ⟨a, b, c, d, sz, f, m1, m2, m3⟩ := Rm (pm k m j) hp
    refine ⟨a, b, c, d, sz, f, g.at m1 (no (ly1 hp) (by omega)), g.at m2 (no (ly2 hp) (by omega)), fun q => ?_⟩
    have hjm : j < m := q
    have hp2 : pm k m j < n 2 := by unfold pm; split <;> (try split) <;> omega
    obtain ⟨q1, q2, q3, q4, q5, q6⟩ := m3 hp2
    rw [remS_7 (by omega) (by omega) hjm, remS_7 (by omega) (by omega) hjm, remS_7 (by omega) (by omega) hjm, remS_7 (by omega) (by omega) hjm, remS_7 (by omega) (by omega) hjm]
    refine ⟨q1, q2, q3, q4, q5, fun x hx => ?_⟩
    have hs := clamp_le (b := 64) (hsz (pm k m j) (by omega)) (by omega)
    rw [q5] at hx
    rw [remS_12 hjm (by omega)]
    exact q6 x (by rw [q5]; exact hx)
  · intro j hj
    have := (Rc.g g (fun k hk => no (ly3 hk) (by omega)) (fun k hk => no (ly9 hk) (by omega)) hP) j hj
    simp only [remS_A (s := s) (k := k) (m := m) (q := 22) (by omega), remS_A (s := s) (k := k) (m := m) (q := 24) (by omega), remS_A (s := s) (k := k) (m := m) (q := 26) (by omega), remS_A (s := s) (k := k) (m := m) (q := 27) (by omega), remS_A (s := s) (k := k) (m := m) (q := 28) (by omega), remS_A (s := s) (k := k) (m := m) (q := 29) (by omega), remS_A (s := s) (k := k) (m := m) (q := 30) (by omega), remS_A (s := s) (k := k) (m := m) (q := 31) (by omega), remS_A (s := s) (k := k) (m := m) (q := 35) (by omega)]
    exact this
  · intro j hj
    have := (Rt.g g (fun k hk => no (ly5 hk) (by omega)) hP) j hj
    simp only [remS_A (s := s) (k := k) (m := m) (q := 40) (by omega), remS_A (s := s) (k := k) (m := m) (q := 41) (by omega), remS_A (s := s) (k := k) (m := m) (q := 43) (by omega), remS_A (s := s) (k := k) (m := m) (q := 46) (by omega), remS_A (s := s) (k := k) (m := m) (q := 47) (by omega), remS_A (s := s) (k := k) (m := m) (q := 48) (by omega), remS_A (s := s) (k := k) (m := m) (q := 49) (by omega), remS_A (s := s) (k := k) (m := m) (q := 50) (by omega), remS_A (s := s) (k := k) (m := m) (q := 51) (by omega)]
    exact this
  · intro j hj
    have := (Rs.g g (fun k hk => no (ly10 hk) (by omega)) (fun k hk => no (ly11 hk) (by omega))) j hj
    simp only [remS_A (s := s) (k := k) (m := m) (q := 1) (by omega), remS_A (s := s) (k := k) (m := m) (q := 2) (by omega)]
    exact this
  · obtain ⟨p1, p2, p3, p4, p5⟩ := Rp.g g hP
    refine ⟨p1, p2, p3, fun j hj hz => ?_, fun t ht hw => ?_⟩
    · rw [remS_A (by omega)] at hz
      rw [remS_A (by omega)]
      exact p4 j hj hz
    · rw [remS_A (by omega)] at hw
      obtain ⟨q1, q2, q3, q4, q5⟩ := p5 t ht hw
      exact ⟨q1, q2, q3, q4, fun j hj hz => q5 j hj (by rw [remS_A (by omega)] at hz; exact hz)⟩
end OFF
