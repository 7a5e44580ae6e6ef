/-! a message more: Wires.add, and the relation behind it -/
def n9 (n : Nat → Nat) : Nat → Nat := va_up (va_up n 9 (if n 2 < n 9 then n 9 else n 9 + 1)) 2 (n 2 + 1)
def yM (y : Nat → Nat → Nat) (n : Nat → Nat) (q b : Nat) : Nat → Nat → Nat := up2 (up2 y 1 (n 2) q) 2 (n 2) b
/-- where the message that is added lies: a row of the layout, or new -/
def qb (h : Hp) (y : Nat → Nat → Nat) (n : Nat → Nat) (q b : Nat) : Prop := (n 2 < n 9 ∧ q = y 1 (n 2) ∧ b = y 2 (n 2)) ∨ (n 2 = n 9 ∧ q ∉ h.1 ∧ b ∉ h.1 ∧ q ≠ b)
def fM (y : Nat → Nat → Nat) (q b : Nat) : Nat → Prop := fun a => a = y 0 3 ∨ a = y 0 10 ∨ a = y 0 6 ∨ a = q ∨ a = b
def fA (y : Nat → Nat → Nat) (q b : Nat) : Nat → Prop := fun a => a = y 0 3 ∨ a = y 0 10 ∨ a = q ∨ a = b
theorem fA.m {y : Nat → Nat → Nat} {q b : Nat} {h h' : Hp} (g : xg (fA y q b) h h') : xg (fM y q b) h h' := g.mono (fun x _ e => by
  rcases e with e | e | e | e
  · exact Or.inl e
  · exact Or.inr (Or.inl e)
  · exact Or.inr (Or.inr (Or.inr (Or.inl e)))
  · exact Or.inr (Or.inr (Or.inr (Or.inr e))))
section ADD
variable {E : Ev} {A : Nat → Prop} {h h' : Hp} {y : Nat → Nat → Nat} {s : MS} {n cp : Nat → Nat}
theorem yM1 {q b j : Nat} (hj : j ≠ n 2) : yM y n q b 1 j = y 1 j := by
  show va_up (y 1) (n 2) q j = y 1 j
  exact va_up_ne _ _ hj
theorem yM2 {q b j : Nat} (hj : j ≠ n 2) : yM y n q b 2 j = y 2 j := by
  show va_up (y 2) (n 2) b j = y 2 j
  exact va_up_ne _ _ hj
theorem yM1s {q b : Nat} : yM y n q b 1 (n 2) = q := by
  show va_up (y 1) (n 2) q (n 2) = q
  exact va_up_self _ _ _
theorem yM2s {q b : Nat} : yM y n q b 2 (n 2) = b := by
  show va_up (y 2) (n 2) b (n 2) = b
  exact va_up_self _ _ _
theorem fM.no (R : RXo E A h y s n cp) {q b : Nat} (hq : qb h y n q b) {k j : Nat} (hl : lyv n cp k j) (h0 : ¬ (k = 0 ∧ (j = 3 ∨ j = 10 ∨ j = 6))) (h1 : ¬ ((k = 1 ∨ k = 2) ∧ j = n 2)) : ¬ fM y q b (y k j) := by
  have hin := R.lyin hl
  rintro (e | e | e | e | e)
  · exact R.1.ne hl (ly0 (by omega)) (by omega) e
  · exact R.1.ne hl (ly0 (by omega)) (by omega) e
  · exact R.1.ne hl (ly0 (by omega)) (by omega) e
  · rcases hq with ⟨z, rfl, rfl⟩ | ⟨z, z1, z2, z3⟩
    · exact R.1.ne hl (ly1 z) (by omega) e
    · exact z1 (by rw [← e]; exact hin)
  · rcases hq with ⟨z, rfl, rfl⟩ | ⟨z, z1, z2, z3⟩
    · exact R.1.ne hl (ly2 z) (by omega) e
    · exact z2 (by rw [← e]; exact hin)
theorem fM.pay (R : RXo E A h y s n cp) {q b : Nat} (hq : qb h y n q b) {p : Nat} {fs : List Value} (hp : xh_at h p (.inr (6, fs))) : ¬ fM y q b p := by
  have no : ∀ {k j}, lyv n cp k j → p ≠ y k j := fun hl e => by
    obtain ⟨e1, q1, q2⟩ := R.ly hl
    rw [e] at hp
    exact q2 fs (q1.2.symm.trans hp.2)
  rintro (e | e | e | e | e)
  · exact no (ly0 (by omega)) e
  · exact no (ly0 (by omega)) e
  · exact no (ly0 (by omega)) e
  · rcases hq with ⟨z, rfl, rfl⟩ | ⟨z, z1, z2, z3⟩
    · exact no (ly1 z) e
    · exact z1 (by rw [← e]; exact hp.1)
  · rcases hq with ⟨z, rfl, rfl⟩ | ⟨z, z1, z2, z3⟩
    · exact no (ly2 z) e
    · exact z2 (by rw [← e]; exact hp.1)
theorem fM.toA (R : RXo E A h y s n cp) {q b : Nat} (hq : qb h y n q b) (g : xg (fM y q b) h h') : xg A h h' := by
  refine g.mono (fun x _ e => ?_)
  rcases e with rfl | rfl | rfl | rfl | rfl
  · exact R.1.2.1 0 3 (ly0 (by omega))
  · exact R.1.2.1 0 10 (ly0 (by omega))
  · exact R.1.2.1 0 6 (ly0 (by omega))
  · rcases hq with ⟨z, rfl, rfl⟩ | ⟨z, z1, z2, z3⟩
    · exact R.1.2.1 1 _ (ly1 z)
    · exact R.1.1 _ z1
  · rcases hq with ⟨z, rfl, rfl⟩ | ⟨z, z1, z2, z3⟩
    · exact R.1.2.1 2 _ (ly2 z)
    · exact R.1.1 _ z2
theorem s_wadd {so nu oso onu : Int32} {kc ks : Nat} {Q : Option Nat → Hp → Prop} (R : RXo E A h y s n cp) (hk : n 2 = n 9 → n 2 < 60 → 2 ≤ kc ∧ 70 ≤ ks) (h0 : n 2 = 60 → Q none h)
    (h1 : ∀ h' q b sz f fw, n 2 < 60 → qb h y n q b → xh_at h' q (.inr (5, mg so nu oso onu sz b)) → xh_at h' b (.inl (E.1 0, 64, .inl f)) → xh_at h' (y 0 3) (.inr (10, [.ref (y 0 10), .int (nI (n 2 + 1))])) → xh_at h' (y 0 10) (.inl (E.1 3, 60, .inr (.inr (.inr (.inr fw))))) → (∀ k, k < 60 → fw k = if k < n9 n 9 then some (yM y n q b 1 k) else none) → xg (fA y q b) h h' → Q (some q) h') : m_X9_add E (y 0 3) so nu oso onu h kc ks Q := by
  have hn := R.2.1.2.2.1.2
  obtain ⟨-, -, -, f3, ⟨fw, f4, f4'⟩, -⟩ := R.2.2.1
  have fin : ∀ (h1' : Hp) (q b : Nat) (o0 o1 o2 o3 sz : Int32) (f : Nat → Int32) (fw1 : Nat → Option Nat), n 2 < 60 → qb h y n q b → xh_at h1' q (.inr (5, mg o0 o1 o2 o3 sz b)) → xh_at h1' b (.inl (E.1 0, 64, .inl f)) → xh_at h1' (y 0 3) (.inr (10, [.ref (y 0 10), .int (nI (n 2))])) → xh_at h1' (y 0 10) (.inl (E.1 3, 60, .inr (.inr (.inr (.inr fw1))))) → fw1 (n 2) = some q → (∀ k, k < 60 → fw1 k = if k < n9 n 9 then some (yM y n q b 1 k) else none) → xg (fA y q b) h h1' → ∀ kc' ks', m_X9_add_L39 E (y 0 3) so nu oso onu h1' kc' ks' Q := by
    intro h1' q b o0 o1 o2 o3 sz f fw1 h60 hqb m1 m2 m3 m4 m5 m6 g kc' ks'
    refine gR_of m3 rfl (gI_of m3 rfl (nN_of ⟨60, fw1, some q, m4, vp_in_nI h60 (by omega), by rw [nI_clamp (by omega)]; exact m5, gI_of m3 rfl (pV_of m3 (by show 1 < 2; decide) (nN_of ?_))⟩))
    have n1 : q ≠ y 0 3 := m1.neq m3 (by intro z; injection z with z; injection z with z; omega)
    have n2' : b ≠ y 0 3 := m2.neq m3 (by intro z; cases z)
    have n3 : b ≠ q := m2.neq m1 (by intro z; cases z)
    have n4 : y 0 10 ≠ y 0 3 := m4.neq m3 (by intro z; cases z)
    have n5 : y 0 10 ≠ q := m4.neq m1 (by intro z; cases z)
    have a1 := m1.ne (e' := .inr (10, [.ref (y 0 10), .int (nI (n 2) + 1)])) n1
    refine pV_of a1 (by show 0 < 6; decide) (pV_of a1.set (by show 1 < 6; decide) (pV_of a1.set.set (by show 2 < 6; decide) (pV_of a1.set.set.set (by show 3 < 6; decide) ?_)))
    refine h1 _ q b sz f fw1 h60 hqb a1.set.set.set.set ((((m2.ne n2').ne n3).ne n3).ne n3 |>.ne n3) ?_ ((((m4.ne n4).ne n5).ne n5).ne n5 |>.ne n5) m6 ?_
    · have := (((m3.set (e' := .inr (10, [.ref (y 0 10), .int (nI (n 2) + 1)]))).ne (e' := .inr (5, mg so o1 o2 o3 sz b)) (fun z => n1 z.symm)).ne (e' := .inr (5, mg so nu o2 o3 sz b)) (fun z => n1 z.symm)).ne (e' := .inr (5, mg so nu oso o3 sz b)) (fun z => n1 z.symm) |>.ne (e' := .inr (5, mg so nu oso onu sz b)) (fun z => n1 z.symm)
      rw [nI_1] at this
      rw [nI_1]
      exact this
    · exact ((((g.tr (xg.set (Or.inl rfl))).tr (xg.set (Or.inr (Or.inr (Or.inl rfl))))).tr (xg.set (Or.inr (Or.inr (Or.inl rfl))))).tr (xg.set (Or.inr (Or.inr (Or.inl rfl))))).tr (xg.set (Or.inr (Or.inr (Or.inl rfl))))
  refine gI_of f3 rfl ⟨fun q => ?_, fun q => h0 ?_⟩
  · have h60 : n 2 < 60 := (nI_ltI (b := 60) (by omega) (by omega)).mp q
    have fm := f4' (n 2) h60
    refine gR_of f3 rfl (gI_of f3 rfl (nN_of ⟨60, fw, fw (n 2), f4, vp_in_nI h60 (by omega), by rw [nI_clamp (by omega)], fun z => ?_, fun a z => ?_⟩))
    · have hnn : n 2 = n 9 := by
        by_cases w : n 2 < n 9
        · rw [fm, if_pos w] at z; cases z
        · omega
      obtain ⟨k1, k2⟩ := hk hnn h60
      refine gR_of f3 rfl (gI_of f3 rfl ⟨kc - 1, ks - 6, by omega, by omega, fun q0 h19 hq0 e19 => ?_⟩)
      refine cK_of 1 64 (by omega) (by omega) ?_
      have u0 : xh_at h19 q0 (.inr (5, mg 0 0 0 0 0 0)) ∨ True := Or.inr trivial
      refine ⟨64, 0, 0, by decide, by decide, by decide, by omega, by omega, fun b h4 hb e4 => ?_⟩
      have w0 : xh_at h4 q0 (.inr (5, [.int 0, .int 0, .int 0, .int 0, .int 0, .null])) := by rw [e4, e19]; exact xh_at.newq.new (by rw [e19] at hb; exact hb)
      have w1 : xh_at h4 b (.inl (E.1 0, 64, .inl (fun _ => 0))) := by rw [e4]; exact xh_at.newq
      have hb0 : b ∉ h.1 := fun z => hb (by rw [e19]; exact List.mem_append_left _ z)
      have g4 : xg (fA y q0 b) h h4 := by rw [e4, e19]; exact (xg.new hq0).tr (xg.new (by rw [e19] at hb; exact hb))
      have nqb : q0 ≠ b := w0.neq w1 (by intro z; cases z)
      refine pV_of w0 (by show 5 < 6; decide) ?_
      have w0' := w0.set (e' := .inr (5, mg 0 0 0 0 0 b))
      have w1' := w1.ne (e' := .inr (5, mg 0 0 0 0 0 b)) (fun z => nqb z.symm)
      have g5 : xg (fA y q0 b) h (xh_set h4 q0 (.inr (5, mg 0 0 0 0 0 b))) := g4.tr (xg.set (Or.inr (Or.inr (Or.inl rfl))))
      have hq3 : y 0 3 ≠ q0 := f3.fresh hq0
      have hq10 : y 0 10 ≠ q0 := f4.fresh hq0
      have hb10 : y 0 10 ≠ b := f4.fresh hb0
      have hqb' : qb h y n q0 b := Or.inr ⟨hnn, hq0, hb0, nqb⟩
      have f3' : xh_at (xh_set h4 q0 (.inr (5, mg 0 0 0 0 0 b))) (y 0 3) _ := (show xh_at h4 (y 0 3) _ by rw [e4, e19]; exact (f3.new hq0).new (by rw [e19] at hb; exact hb)).ne hq3
      have f4n : xh_at (xh_set h4 q0 (.inr (5, mg 0 0 0 0 0 b))) (y 0 10) _ := (show xh_at h4 (y 0 10) _ by rw [e4, e19]; exact (f4.new hq0).new (by rw [e19] at hb; exact hb)).ne hq10
      refine nN_of (isO_of w0' ⟨60, fw, f4n, vp_in_nI h60 (by omega), _, rfl, ?_⟩)
      rw [nI_clamp (by omega)]
      have f3'' := f3'.ne (e' := .inl (E.1 3, 60, .inr (.inr (.inr (.inr (va_up fw (n 2) (some q0))))))) (f3'.neq f4n (by intro z; cases z))
      refine fin _ q0 b 0 0 0 0 0 (fun _ => 0) (va_up fw (n 2) (some q0)) h60 hqb' (w0'.ne (fun z => hq10 z.symm)) (w1'.ne (fun z => hb10 z.symm)) f3'' f4n.set (va_up_self _ _ _) (fun k hk => ?_) (g5.tr (xg.set (Or.inr (Or.inl rfl)))) _ _
      have e9 : n9 n 9 = n 9 + 1 := by
        show (if n 2 < n 9 then n 9 else n 9 + 1) = _
        rw [if_neg (by omega)]
      rw [e9]
      by_cases e : k = n 2
      · subst e; rw [va_up_self, yM1s, if_pos (by omega)]
      · rw [va_up_ne _ _ e, f4' k hk, yM1 e]
        by_cases w : k < n 9
        · rw [if_pos w, if_pos (by omega)]
        · rw [if_neg w, if_neg (by omega)]
    · have hlt : n 2 < n 9 := by
        by_cases w : n 2 < n 9
        · exact w
        · rw [fm, if_neg w] at z; cases z
      rw [fm, if_pos hlt] at z
      cases z
      obtain ⟨o0, o1, o2, o3, sz, f, m1, m2, -⟩ := R.2.2.2.2.1 (n 2) hlt
      refine fin h (y 1 (n 2)) (y 2 (n 2)) o0 o1 o2 o3 sz f fw h60 (Or.inl ⟨hlt, rfl, rfl⟩) m1 m2 f3 f4 (by rw [fm, if_pos hlt]) (fun k hk => ?_) xg.rf _ _
      have e9 : n9 n 9 = n 9 := by
        show (if n 2 < n 9 then n 9 else n 9 + 1) = _
        rw [if_pos hlt]
      rw [e9, f4' k hk]
      by_cases e : k = n 2
      · subst e; rw [yM1s]
      · rw [yM1 e]
  · rcases Nat.lt_or_ge (n 2) 60 with z | z
    · exact absurd (nI_lt (b := 60) z (by omega)) q
    · omega
end ADD
