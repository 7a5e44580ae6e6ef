/-! a card takes ASK, and whatever comes -/
section ASK2
variable {E : Ev} {A : Nat → Prop} {h : Hp} {y : Nat → Nat → Nat} {s s' : MS} {n cp : Nat → Nat} {kd fs fr : Int32} {cf gf : Nat → Int64} {i u c : Nat} {r : Int32}
theorem t64_inj {a b : Int32} : a.toInt64 = b.toInt64 ↔ a = b := ⟨fun e => by rw [← Int32.toInt32_toInt64 a, e, Int32.toInt32_toInt64], fun e => by rw [e]⟩
theorem lg_t {a b : Int32} {v w : Int64} (e1 : v = a.toInt64) (e2 : w = b.toInt64) : lg_cmp v w = 0 ↔ a = b := by rw [lg_cmp_eq, e1, e2, t64_inj]
theorem J_ask {t5 t7 : Int32} (X : CX E A h y s n cp 5 fs fr cf gf) (w : W2 i u s n) (hi : i < 512) (hu : u < 2000) (hc : c < n 0) (m13 : s.1 13 = fs) (m14 : s.1 14 = fr) (hAd : Ad n fs fr) (f3 : s.2.2.2 17 3 = cf 3) (f4 : s.2.2.2 17 4 = cf 4) (f5 : s.2.2.2 17 5 = cf 5) (f7 : s.2.2.2 17 7 = cf 7) (e5 : cf 5 = t5.toInt64) (e7 : cf 7 = t7.toInt64) :
    Mw (M_toCard s (nI c) 5) (JP E A h y n cp (i + 1) (u + 1) (fun kc ks Q => m_X1_takesAsk E (y 3 c) (some (y 0 5)) h kc ks Q)) := by
  have R := X.1
  have hn0 := R.2.1.1.2
  have cc : (nI c).toNatClampNeg = c := nI_clamp (by omega)
  have cb : (nI c < 0 ∨ 16 ≤ c) = False := ixF (by omega) (by omega)
  have x := X.card hc
  have h10 := cp10 R (j0 := 15) (by omega) (by omega)
  have wu : W2 (i + 1) (u + 1) s n := w.mono (by omega) (by omega)
  have ht7 : (cf 7).toInt32 = t7 := by rw [e7, Int32.toInt32_toInt64]
  have ht5 : (cf 5).toInt32 = t5 := by rw [e5, Int32.toInt32_toInt64]
  unfold M_toCard
  refine Mw.no (by decide) ?_
  unfold M_toCard_L126
  refine Mw.no (by decide) ?_
  unfold M_toCard_L148
  refine Mw.y rfl ?_
  simp only [cc, cb, if_false]
  have no170 : M_toCard_L170 s (nI c) 5 = some (0, s) := by unfold M_toCard_L170; rw [if_neg (by decide)]
  rw [no170]
  refine Mw.i (fun q => Mw.bv ?_) (fun q => Mw.r (JP.same R wu (fun kc ks Q hQ => gI_of x rfl ⟨fun z => absurd z q, fun _ => hQ⟩)))
  have h30 : ¬ s.2.2.1 30 c = 2 := by rw [q]; decide
  have pre : ∀ (kc ks : Nat) (Q : Int32 → Hp → Prop) (b : Int32), (∀ Q' : Int32 → Hp → Prop, Q' b h → m_X1_answerTo E (y 3 c) t7 (cf 3) h 0 0 Q') → (b = 2 → isO h (y 3 c) 2 (cK kc ks fun mc18 ms19 kc20 ks21 => m_X1_losesPower E (y 3 c) h mc18 ms19 (fun x22 h23 => br (x22 = 0) (gI h23 (y 3 c) 2 7 fun x26 => pV h23 (y 3 c) 2 7 (.int (x26 + 1)) fun h28 => m_X1_takesAsk_L51 E (y 3 c) (some (y 0 5)) b h28 kc20 ks21 Q) (Q 1 h23)))) → (¬ b = 2 → m_X1_takesAsk_L51 E (y 3 c) (some (y 0 5)) b h kc ks Q) → m_X1_takesAsk E (y 3 c) (some (y 0 5)) h kc ks Q := by
    intro kc ks Q b hb h1 h2
    refine gI_of x rfl ⟨fun _ => nN_of (isO_of X.2.1 (gR_of X.2.1 rfl (nN_of (aL_of X.2.2.1 (j := 7) rfl (by omega) (by omega) rfl ?_)))), fun z => absurd q z⟩
    rw [ht7]
    exact gR_of X.2.1 rfl (nN_of (aL_of X.2.2.1 (j := 3) rfl (by omega) (by omega) rfl (isO_of x (hb _ ⟨h1, h2⟩))))
  have one : ∀ b : Int32, ¬ b = 2 → (∀ Q' : Int32 → Hp → Prop, Q' b h → m_X1_answerTo E (y 3 c) t7 (cf 3) h 0 0 Q') → Mv (M_answer_L97 s (nI c) (cf 3) b) (fun s' => Mw (some ((1 : Int32), s')) (JP E A h y n cp (i + 1) (u + 1) (fun kc ks Q => m_X1_takesAsk E (y 3 c) (some (y 0 5)) h kc ks Q))) := by
    intro b hb2 hb
    refine (J_ask51 (E := E) (A := A) (kd := 5) (ans := b) (t5 := t5) R.2.1 h10 w hi hu hc h30 m13 m14 hAd f4 (f5.trans e5) ht5).m (fun s' hJ => Mw.r ?_)
    obtain ⟨n', cp', j1, j2, j3, j4⟩ := hJ
    exact ⟨n', cp', j1, j2, j3, fun kc ks k1 k2 Q hQ => pre kc ks Q b hb (fun z => absurd z hb2) (fun _ => j4 h y gf X kc ks (by omega) (by omega) Q hQ)⟩
  unfold M_answer M_answer_L34
  dsimp only [lt1]
  simp only [cc, cb, if_false, tC3, tC7, tB3, tB7, f3, f7]
  refine Mv.i (fun q1 => one 0 (by decide) (fun Q' hQ => gI_of x rfl ⟨fun _ => hQ, fun z => absurd q1 z⟩)) (fun q1 => ?_)
  refine Mv.i (fun q2 => one 0 (by decide) (fun Q' hQ => gI_of x rfl ⟨fun z => absurd z q1, fun _ => ⟨fun _ => hQ, fun z => absurd ((lg_t e7 (b := 0) i64_0.symm).mp q2) z⟩⟩)) (fun q2 => ?_)
  have q2' : ¬ t7 = 0 := fun z => q2 ((lg_t e7 (b := 0) i64_0.symm).mpr z)
  refine Mv.i (fun q3 => ?_) (fun q3 => one 1 (by decide) (fun Q' hQ => gI_of x rfl ⟨fun z => absurd z q1, fun _ => ⟨fun z => absurd z q2', fun _ => ⟨fun z => absurd ((lg_t e7 (b := 2) i64_2.symm).mpr z) q3, fun _ => hQ⟩⟩⟩))
  have q3' : t7 = 2 := (lg_t e7 (b := 2) i64_2.symm).mp q3
  refine Mv.i (fun q4 => one 1 (by decide) (fun Q' hQ => gI_of x rfl ⟨fun z => absurd z q1, fun _ => ⟨fun z => absurd z q2', fun _ => ⟨fun _ => gL_of x rfl ⟨fun _ => hQ, fun z => absurd q4 z⟩, fun z => absurd q3' z⟩⟩⟩)) (fun q4 => ?_)
  refine Mv.i (fun q5 => one 1 (by decide) (fun Q' hQ => gI_of x rfl ⟨fun z => absurd z q1, fun _ => ⟨fun z => absurd z q2', fun _ => ⟨fun _ => gL_of x rfl ⟨fun z => absurd z q4, fun _ => gI_of x rfl (gI_of x rfl ⟨fun _ => hQ, fun z => absurd q5 z⟩)⟩, fun z => absurd q3' z⟩⟩⟩)) (fun q5 => ?_)
  have hb : ∀ Q' : Int32 → Hp → Prop, Q' 2 h → m_X1_answerTo E (y 3 c) t7 (cf 3) h 0 0 Q' := fun Q' hQ => gI_of x rfl ⟨fun z => absurd z q1, fun _ => ⟨fun z => absurd z q2', fun _ => ⟨fun _ => gL_of x rfl ⟨fun z => absurd z q4, fun _ => gI_of x rfl (gI_of x rfl ⟨fun z => absurd z q5, fun _ => hQ⟩)⟩, fun z => absurd q3' z⟩⟩⟩
  refine Mv.b ?_
  obtain ⟨r1, s1, e1, hW⟩ := M_writes_spec (s := s) (c := c) (by omega) (w.2.2.2.2.2.2.1 c hc)
  refine Mw.e e1 ?_
  have w1 := hW.w w hc
  dsimp only
  by_cases z : r1 = 0
  · subst z
    refine Mv.y rfl (Mv.r (Mw.r ⟨n, cp, w1.mono (by omega) (by omega), Nat.le_refl _, Nat.le_refl _, fun kc ks k1 k2 Q hQ => ?_⟩))
    refine pre kc ks Q 2 hb (fun _ => isO_of x (cK_of 1 8 (by omega) (by omega) (s_lose X hc hW ⟨by omega, by omega⟩ (fun h' p X' gA => ?_)))) (fun z => absurd rfl z)
    exact ⟨fun z => absurd z (by decide), fun _ => hQ h' _ X'.1 rfl gA⟩
  have hr : (if r1 = 0 then (1 : Int32) else 0) = 0 := if_neg z
  refine Mv.no z ?_
  have m1 : s1.1 13 = fs ∧ s1.1 14 = fr ∧ ¬ s1.2.2.1 30 c = 2 ∧ s1.2.2.2 17 = s.2.2.2 17 ∧ RXn s1 n cp := by
    have hn := R.2.1
    rcases hW with ⟨_, hr0, rfl⟩ | ⟨_, _, rfl⟩ | ⟨p, _, _, _, rfl⟩
    · exact absurd hr0 z
    · exact ⟨m13, m14, h30, rfl, hn⟩
    · exact ⟨m13, m14, h30, rfl, hn⟩
  obtain ⟨m13', m14', m30, m17, Rn1⟩ := m1
  have w2 : W2 i u (mA s1 29 c (s1.2.2.1 29 c + 1)) n := w1.cd hc rfl rfl (fun j hj => by simp [cdv, mA, va_up, upd, hj]) (by simpa [mA, va_up, upd] using w1.2.2.2.2.2.2.1 c hc)
  have Rn2 : RXn (mA s1 29 c (s1.2.2.1 29 c + 1)) n cp := Rn1
  refine (J_ask51 (E := E) (A := A) (kd := 5) (ans := 2) (t5 := t5) Rn2 h10 w2 hi hu hc (by simpa [mA, va_up] using m30) m13' m14' hAd (by rw [← f4, ← m17]; rfl) (by rw [← e5, ← f5, ← m17]; rfl) ht5).m (fun s' hJ => Mw.r ?_)
  obtain ⟨n', cp', j1, j2, j3, j4⟩ := hJ
  refine ⟨n', cp', j1, j2, j3, fun kc ks k1 k2 Q hQ => pre kc ks Q 2 hb (fun _ => isO_of x (cK_of 1 8 (by omega) (by omega) (s_lose X hc hW ⟨by omega, by omega⟩ (fun h2 p2 X2 g2 => ?_)))) (fun z => absurd rfl z)⟩
  rw [hr]
  refine ⟨fun _ => ?_, fun z => absurd rfl z⟩
  have x2 := X2.card hc
  obtain ⟨a1, a2, a3, a4, a5, a6, a7, a8, ap, aq⟩ := X2.asked hc
  have npc : up2 y 4 c p2 4 c ≠ y 3 c := nP_obj x2 (by decide) _ _ ap
  refine gI_of x2 rfl (pV_of x2 (by show 7 < 12; decide) ?_)
  obtain ⟨X3, g3⟩ := X2.cd (s' := mA s1 29 c (s1.2.2.1 29 c + 1)) (p := up2 y 4 c p2 4 c) (x22 := s1.2.2.1 22 c) (x23 := s1.2.2.2 23 c) (x24 := s1.2.2.1 24 c) (x27 := s1.2.2.1 27 c) (x28 := s1.2.2.1 28 c) (x29 := s1.2.2.1 29 c + 1) (x30 := s1.2.2.1 30 c) (x35 := s1.2.2.1 35 c) (x31 := s1.2.2.1 31 c) (x32 := s1.2.2.2 32 c) (x33 := s1.2.2.2 33 c) (x34 := s1.2.2.2 34 c) (x25 := s1.2.2.2 25 c) (x26 := s1.2.2.1 26 c) hc (xg.set (S := fun a => a = y 3 c) rfl) (Or.inl rfl) (by simp [cdv, mA, va_up, upd]) x2.set ⟨_, _, _, _, _, _, _, _, ap.ne npc, aq⟩ rfl rfl (fun j hj => by simp [cdv, mA, va_up, upd, hj]) rfl rfl
  have := j4 _ _ gf X3 (kc - 1) (ks - 8) (by omega) (by omega) Q (fun h' y' R' hy g' => hQ h' y' R' hy (g2.tr (g3.tr g')))
  exact this
/-- the answers are 0 or 1 -/
def M01 (o : Option (Int32 × MS)) : Prop := ∀ r s', o = some (r, s') → r = 0 ∨ r = 1
theorem M01.no : M01 none := fun _ _ e => by cases e
theorem M01.s0 : M01 (some (0, s)) := fun _ _ e => by cases e; exact Or.inl rfl
theorem M01.s1 : M01 (some (1, s)) := fun _ _ e => by cases e; exact Or.inr rfl
theorem M01.it {p : Prop} [Decidable p] {a b : Option (Int32 × MS)} (h1 : M01 a) (h2 : M01 b) : M01 (if p then a else b) := by
  by_cases hc : p
  · rw [if_pos hc]; exact h1
  · rw [if_neg hc]; exact h2
theorem M01.b {β : Type} {o : Option β} {f : β → Option (Int32 × MS)} (h : ∀ x, M01 (f x)) : M01 (o.bind f) := by
  cases o with
  | none => exact M01.no
  | some x => exact h x
theorem M_toCard_01 (a k : Int32) : M01 (M_toCard s a k) := by
  have h170 : ∀ s, M01 (M_toCard_L170 s a k) := fun s => by
    unfold M_toCard_L170
    exact M01.it (M01.it M01.no (M01.it (M01.b (fun _ => M01.s1)) M01.s0)) M01.s0
  have h148 : ∀ s, M01 (M_toCard_L148 s a k) := fun s => by
    unfold M_toCard_L148
    exact M01.it (M01.it M01.no (M01.it (M01.b (fun _ => M01.s1)) (h170 s))) (h170 s)
  have h126 : ∀ s, M01 (M_toCard_L126 s a k) := fun s => by
    unfold M_toCard_L126
    exact M01.it (M01.it M01.no (M01.it (M01.b (fun _ => M01.s1)) (h148 s))) (h148 s)
  unfold M_toCard
  dsimp only [lt1]
  refine M01.it (M01.it M01.no (M01.it (h126 s) (M01.b (fun x => M01.it M01.s1 ?_)))) (h126 s)
  repeat (first | exact M01.s1 | exact M01.no | refine M01.it M01.no ?_ | refine M01.b (fun _ => ?_))
/-- the fields that came are those that the reference read -/
def FD (k : Nat) (s : MS) (cf : Nat → Int64) : Prop := ∀ t, 1 ≤ t → t ≤ 11 → hasK k t = true → s.2.2.2 17 t = cf t ∧ (lenT t ≤ 2 → ∃ q, q < 65536 ∧ cf t = (nI q).toInt64)
theorem JP.to {α : Type} {i' u' : Nat} {X X' : Nat → Nat → (α → Hp → Prop) → Prop} {r : α} (j : JP E A h y n cp i u X r s') (h1 : i ≤ i') (h2 : u ≤ u') (hX : ∀ kc ks Q, X kc ks (fun a h' => a = r ∧ Q a h') → X' kc ks Q) : JP E A h y n cp i' u' X' r s' := by
  obtain ⟨n', cp', j1, j2, j3, j4⟩ := j
  exact ⟨n', cp', j1.mono h1 h2, j2, j3, fun kc ks k1 k2 Q hQ => hX kc ks Q (j4 kc ks k1 k2 _ (fun h' y' R' hy g' => ⟨rfl, hQ h' y' R' hy g'⟩))⟩
theorem J_toCard {k : Nat} (hk : 1 ≤ k ∧ k < 12) (X : CX E A h y s n cp (nI k) fs fr cf gf) (w : W2 i u s n) (hi : i < 512) (hu : u < 2000) (hc : c < n 0) (m13 : s.1 13 = fs) (m14 : s.1 14 = fr) (hAd : Ad n fs fr) (hF : FD k s cf) :
    Mw (M_toCard s (nI c) (nI k)) (JP E A h y n cp (i + 1) (u + 1) (fun kc ks Q => m_X1_takes E (y 3 c) (some (y 0 5)) h kc ks Q)) := by
  have x := X.card hc
  have fin : ∀ (X' : Nat → Nat → (Int32 → Hp → Prop) → Prop) (j v : Nat), j ≤ i + 1 → v ≤ u + 1 → (∀ kc ks Q, X' kc ks (fun x9 h10 => (x9 = 0 ∨ x9 = 1) ∧ Q x9 h10) → m_X1_takes E (y 3 c) (some (y 0 5)) h kc ks Q) → Mw (M_toCard s (nI c) (nI k)) (JP E A h y n cp j v X') → Mw (M_toCard s (nI c) (nI k)) (JP E A h y n cp (i + 1) (u + 1) (fun kc ks Q => m_X1_takes E (y 3 c) (some (y 0 5)) h kc ks Q)) := by
    intro X' j v h1 h2 hX hM
    obtain ⟨r, s', e, n', cp', j1, j2, j3, j4⟩ := hM
    have h01 := M_toCard_01 (s := s) (nI c) (nI k) r s' e
    exact ⟨r, s', e, n', cp', j1.mono h1 h2, j2, j3, fun kc ks k1 k2 Q hQ => hX kc ks Q (j4 kc ks k1 k2 _ (fun h' y' R' hy g' => ⟨h01, hQ h' y' R' hy g'⟩))⟩
  have hcK : ∀ {kc ks : Nat} {P : Nat → Nat → Nat → Nat → Prop}, P kc ks (kc - kc) (ks - ks) → cK kc ks P := fun hp => cK_of _ _ (Nat.le_refl _) (Nat.le_refl _) hp
  by_cases e1 : k = 1
  · subst e1
    exact fin _ i (u + 1) (by omega) (by omega) (fun kc ks Q hQ => nN_of (gI_of X.2.1 rfl ⟨fun _ => isO_of x (hcK hQ), fun z => absurd rfl z⟩)) (J_begin X w hu hc m13 m14 hAd (hF 4 (by omega) (by omega) (by decide +kernel)).1)
  by_cases e3 : k = 3
  · subst e3
    exact fin _ i (u + 1) (by omega) (by omega) (fun kc ks Q hQ => nN_of (gI_of X.2.1 rfl ⟨fun z => absurd z (by decide), fun _ => ⟨fun _ => isO_of x (hcK hQ), fun z => absurd rfl z⟩⟩)) (J_pin X w hu hc m13 m14 hAd (hF 9 (by omega) (by omega) (by decide +kernel)).1)
  by_cases e5 : k = 5
  · subst e5
    obtain ⟨g5, q5⟩ := hF 5 (by omega) (by omega) (by decide +kernel)
    obtain ⟨g7, q7⟩ := hF 7 (by omega) (by omega) (by decide +kernel)
    obtain ⟨t5, -, z5⟩ := q5 (by decide +kernel)
    obtain ⟨t7, -, z7⟩ := q7 (by decide +kernel)
    exact fin _ (i + 1) (u + 1) (by omega) (by omega) (fun kc ks Q hQ => nN_of (gI_of X.2.1 rfl ⟨fun z => absurd z (by decide), fun _ => ⟨fun z => absurd z (by decide), fun _ => ⟨fun _ => isO_of x (hcK hQ), fun z => absurd rfl z⟩⟩⟩)) (J_ask X w hi hu hc m13 m14 hAd (hF 3 (by omega) (by omega) (by decide +kernel)).1 (hF 4 (by omega) (by omega) (by decide +kernel)).1 g5 g7 z5 z7)
  by_cases e9 : k = 9
  · subst e9
    exact fin _ i (u + 1) (by omega) (by omega) (fun kc ks Q hQ => nN_of (gI_of X.2.1 rfl ⟨fun z => absurd z (by decide), fun _ => ⟨fun z => absurd z (by decide), fun _ => ⟨fun z => absurd z (by decide), fun _ => ⟨fun _ => isO_of x (hcK hQ), fun z => absurd rfl z⟩⟩⟩⟩)) (J_end X w hu hc m13 m14 hAd (hF 8 (by omega) (by omega) (by decide +kernel)).1 (hF 10 (by omega) (by omega) (by decide +kernel)).1)
  have k1 : ¬ nI k = 1 := fun z => e1 ((nI_eq (b := 1) (by omega) (by omega)).mp z)
  have k3 : ¬ nI k = 3 := fun z => e3 ((nI_eq (b := 3) (by omega) (by omega)).mp z)
  have k5 : ¬ nI k = 5 := fun z => e5 ((nI_eq (b := 5) (by omega) (by omega)).mp z)
  have k9 : ¬ nI k = 9 := fun z => e9 ((nI_eq (b := 9) (by omega) (by omega)).mp z)
  unfold M_toCard
  rw [if_neg k1]
  unfold M_toCard_L126
  rw [if_neg k3]
  unfold M_toCard_L148
  rw [if_neg k5]
  unfold M_toCard_L170
  rw [if_neg k9]
  exact Mw.r (JP.same X.1 (w.mono (by omega) (by omega)) (fun kc ks Q hQ => nN_of (gI_of X.2.1 rfl ⟨fun z => absurd z k1, fun _ => ⟨fun z => absurd z k3, fun _ => ⟨fun z => absurd z k5, fun _ => ⟨fun z => absurd z k9, fun _ => hQ⟩⟩⟩⟩)))
end ASK2
