/-! with what came and what goes -/
def CX (E : Ev) (A : Nat → Prop) (h : Hp) (y : Nat → Nat → Nat) (s : MS) (n cp : Nat → Nat) (kd fs fr : Int32) (cf gf : Nat → Int64) : Prop :=
  RXo E A h y s n cp ∧ xh_at h (y 0 5) (.inr (3, [.int kd, .int fs, .int fr, .ref (y 0 7)])) ∧ xh_at h (y 0 7) (.inl (E.1 1, 12, .inr (.inl cf))) ∧ xh_at h (y 0 8) (.inl (E.1 1, 12, .inr (.inl gf)))
/-- what both do, in one: the class ends where the reference ends -/
def JP {α : Type} (E : Ev) (A : Nat → Prop) (h : Hp) (y : Nat → Nat → Nat) (n cp : Nat → Nat) (i u : Nat) (X : Nat → Nat → (α → Hp → Prop) → Prop) (r : α) (s' : MS) : Prop :=
  ∃ n' cp', W2 i u s' n' ∧ Fc n' ≤ Fc n ∧ Fs n' cp' ≤ Fs n cp ∧ ∀ kc ks, 6 + Fc n ≤ kc + Fc n' → 200 + Fs n cp ≤ ks + Fs n' cp' → ∀ Q : α → Hp → Prop, (∀ h' y', RXo E A h' y' s' n' cp' → y' 0 0 = y 0 0 → xg A h h' → Q r h') → X kc ks Q
theorem lyc {n cp : Nat → Nat} {j : Nat} (hj : j ≤ 18) : lyv n cp 0 j := ly0 hj
section CXS
variable {E : Ev} {A S : Nat → Prop} {h h' : Hp} {y y' : Nat → Nat → Nat} {s s' : MS} {n cp n' cp' : Nat → Nat} {kd fs fr : Int32} {cf gf v : Nat → Int64} {i u c : Nat} {r : Int32}
theorem CX.nx (X : CX E A h y s n cp kd fs fr cf gf) (R' : RXo E A h' y' s' n' cp') (g : xg S h h') (h5 : ¬ S (y 0 5)) (h7 : ¬ S (y 0 7)) (h8 : ¬ S (y 0 8)) (hy : ∀ j, y' 0 j = y 0 j) : CX E A h' y' s' n' cp' kd fs fr cf gf := by
  obtain ⟨R, x1, x2, x3⟩ := X
  exact ⟨R', by rw [hy 5, hy 7]; exact g.at x1 h5, by rw [hy 7]; exact g.at x2 h7, by rw [hy 8]; exact g.at x3 h8⟩
theorem CX.ys {P : Nat → Nat → Prop} (X : CX E A h y s n cp kd fs fr cf gf) (R' : RXo E A h' y' s' n' cp') (g : xg (YS y n cp P) h h') (hP : ¬ P 0 5 ∧ ¬ P 0 7 ∧ ¬ P 0 8) (hy : ∀ j, y' 0 j = y 0 j) : CX E A h' y' s' n' cp' kd fs fr cf gf :=
  X.nx R' g (YS.no X.1.1 (lyc (by omega)) hP.1) (YS.no X.1.1 (lyc (by omega)) hP.2.1) (YS.no X.1.1 (lyc (by omega)) hP.2.2) hy
theorem CX.eqv (X : CX E A h y s n cp kd fs fr cf gf) (e : vis s' = vis s) : CX E A h y s' n cp kd fs fr cf gf := ⟨X.1.eqv e, X.2⟩
theorem CX.gs (X : CX E A h y s n cp kd fs fr cf gf) (t : Nat) (w : Int64) : CX E A (xh_set h (y 0 8) (.inl (E.1 1, 12, .inr (.inl (vp_updL gf t w))))) y s n cp kd fs fr cf (vp_updL gf t w) ∧ xg A h (xh_set h (y 0 8) (.inl (E.1 1, 12, .inr (.inl (vp_updL gf t w))))) := by
  obtain ⟨R, x1, x2, x3⟩ := X
  refine ⟨⟨R.tmp (j := 8) (Or.inr (Or.inr (Or.inr (Or.inr (Or.inr ⟨rfl, _, rfl⟩))))), x1.ne (R.1.ne (lyc (by omega)) (lyc (by omega)) (by omega)), x2.ne (R.1.ne (lyc (by omega)) (lyc (by omega)) (by omega)), x3.set⟩, xg.set (R.1.2.1 0 8 (lyc (by omega)))⟩
theorem CX.cd {p : Nat} {x22 : Int32} {x23 : Int64} {x24 x27 x28 x29 x30 x35 x31 : Int32} {x32 x33 x34 x25 : Int64} {x26 : Int32} (X : CX E A h y s n cp kd fs fr cf gf) (hc : c < n 0) (g : xg (fun a => a = y 3 c) h h') (hp : p = y 4 c ∨ p ∉ h.1)
    (hv : cdv s' c = (x22, x23, x24, x27, x28, x29, x30, x35, x31, x32, x33, x34, x25, x26)) (hx : xh_at h' (y 3 c) (.inr (2, cardL y c p x22 x23 x24 x27 x28 x29 x30 x35 x31))) (hP : ∃ cc k am un t w a sl, PAY h' p cc k am un t w a sl ∧ (x30 = 2 → cc = nI c ∧ k = x27 ∧ am = x32 ∧ un = x33 ∧ t.toInt64 = x34))
    (hO : visO s' = visO s) (hT : visT s' = visT s) (hC : ∀ j, j ≠ c → cdv s' j = cdv s j) (h25 : x25 = s.2.2.2 25 c) (h26 : x26 = s.2.2.1 26 c) : CX E A h' (up2 y 4 c p) s' n cp kd fs fr cf gf ∧ xg A h h' := by
  obtain ⟨R', gA⟩ := X.1.cd hc g hp hv hx hP hO hT hC h25 h26
  have no : ∀ j, j ≤ 18 → ¬ y 0 j = y 3 c := fun j hj => X.1.1.ne (lyc hj) (ly3 hc) (by omega)
  exact ⟨X.nx R' g (no 5 (by omega)) (no 7 (by omega)) (no 8 (by omega)) (fun j => rfl), gA⟩
theorem CX.card (X : CX E A h y s n cp kd fs fr cf gf) (hc : c < n 0) : xh_at h (y 3 c) (.inr (2, cardL y c (y 4 c) (s.2.2.1 22 c) (s.2.2.2 23 c) (s.2.2.1 24 c) (s.2.2.1 27 c) (s.2.2.1 28 c) (s.2.2.1 29 c) (s.2.2.1 30 c) (s.2.2.1 35 c) (s.2.2.1 31 c))) := (X.1.2.2.2.2.2.1 c hc).1
theorem CX.asked (X : CX E A h y s n cp kd fs fr cf gf) (hc : c < n 0) : ∃ cc k am un t w a sl, PAY h (y 4 c) cc k am un t w a sl ∧ (s.2.2.1 30 c = 2 → cc = nI c ∧ k = s.2.2.1 27 c ∧ am = s.2.2.2 32 c ∧ un = s.2.2.2 33 c ∧ t.toInt64 = s.2.2.2 34 c) := (X.1.2.2.2.2.2.1 c hc).2.1
theorem CX.world (X : CX E A h y s n cp kd fs fr cf gf) : xh_at h (y 0 1) (.inr (11, [.ref (y 0 3), .ref (y 0 4), .ref (y 0 12), .ref (y 0 13), .ref (y 0 14), .ref (y 0 15), .ref (y 0 5), .ref (y 0 6)])) := X.1.2.2.1.2.1
theorem CX.goes (X : CX E A h y s n cp kd fs fr cf gf) : ∃ a b d, xh_at h (y 0 6) (.inr (3, [.int a, .int b, .int d, .ref (y 0 8)])) := X.1.2.2.1.2.2.2.2.2.2.2.2.1
theorem W2.cd (w : W2 i u s n) (hc : c < n 0) (hO : visO s' = visO s) (hT : visT s' = visT s) (hC : ∀ j, j ≠ c → cdv s' j = cdv s j) (hp : s'.2.2.1 35 c = -1 ∨ ∃ p, p ≤ 9 ∧ s'.2.2.1 35 c = nI p) : W2 i u s' n := by
  obtain ⟨wc, wb, wg, wz, wa, wt, wp, wd, wf⟩ := w
  have a0 : W2c i u (unvisO (visO s)) n := wc
  have a1 : ∀ a, a < 3840 → okB ((unvisO (visO s)).2.2.1 12 a) := wb
  have a2 : ∀ a, a < 64 → okB ((unvisO (visO s)).2.2.1 19 a) := wg
  have a3 : ∀ j, j < 60 → ∃ z, z ≤ 64 ∧ (unvisO (visO s)).2.2.1 11 j = nI z := wz
  have a4 : ∀ j, j < n 2 → Ad n ((unvisO (visO s)).2.2.1 7 j) ((unvisO (visO s)).2.2.1 8 j) ∧ Ad n ((unvisO (visO s)).2.2.1 9 j) ((unvisO (visO s)).2.2.1 10 j) := wa
  have a5 : W2t (unvisT (visT s)) n := wt
  have a6 : Dist (unvisO (visO s)) (n 4) := wd
  have a7 : ∀ t, n 1 ≤ t → t < 8 → (unvisT (visT s)).2.2.1 40 t = 0 ∧ (unvisT (visT s)).2.2.1 41 t = 0 ∧ (unvisT (visT s)).2.2.1 43 t = 0 ∧ (unvisT (visT s)).2.2.1 46 t = 0 ∧ (unvisT (visT s)).2.2.1 48 t = 0 ∧ (unvisT (visT s)).2.2.1 51 t = 0 := fun t h1 h2 => ⟨(wf.2 t h1 h2).1, (wf.2 t h1 h2).2.1, (wf.2 t h1 h2).2.2.1, (wf.2 t h1 h2).2.2.2.1, (wf.2 t h1 h2).2.2.2.2.1, (wf.2 t h1 h2).2.2.2.2.2.1⟩
  have a8 : ∀ t, n 1 ≤ t → t < 8 → bl (unvisO (visO s)) (n 7) t = [] := fun t h1 h2 => (wf.2 t h1 h2).2.2.2.2.2.2
  rw [← hO] at a0 a1 a2 a3 a4 a6 a8
  rw [← hT] at a5 a7
  have cv : ∀ j, j ≠ c → _ := hC
  refine ⟨a0, a1, a2, a3, a4, a5, fun j hj => ?_, a6, fun j h1 h2 => ?_, fun t h1 h2 => ⟨(a7 t h1 h2).1, (a7 t h1 h2).2.1, (a7 t h1 h2).2.2.1, (a7 t h1 h2).2.2.2.1, (a7 t h1 h2).2.2.2.2.1, (a7 t h1 h2).2.2.2.2.2, a8 t h1 h2⟩⟩
  · by_cases z : j = c
    · subst z; exact hp
    · have e := hC j z
      unfold cdv at e
      simp only [Prod.mk.injEq] at e
      rw [e.2.2.2.2.2.2.2.1]
      exact wp j hj
  · have e := hC j (by omega)
    unfold cdv at e
    simp only [Prod.mk.injEq] at e
    obtain ⟨e1, e2, e3, e4, e5, e6, e7, e8, e9, e10, e11, e12, e13, e14⟩ := e
    rw [e14, e4, e6, e7, e9]
    exact wf.1 j h1 h2
/-- a write of a card: whether its power holds -/
def lostS (s : MS) (c : Nat) : MS := mL (mL (mL (mA (mA (mA s 35 c (-1)) 30 c 0) 31 c 0) 32 c 0) 33 c 0) 34 c 0
def WrR (s : MS) (c : Nat) (r : Int32) (s' : MS) : Prop := (s.2.2.1 35 c = 0 ∧ r = 0 ∧ s' = lostS s c) ∨ (s.2.2.1 35 c = -1 ∧ r = 1 ∧ s' = s) ∨ ∃ p, p ≤ 8 ∧ s.2.2.1 35 c = nI (p + 1) ∧ r = 1 ∧ s' = mA s 35 c (nI p)
theorem mA_same (s : MS) (k j : Nat) : mA s k j (s.2.2.1 k j) = s := by
  have e1 : upd (s.2.2.1 k) j (s.2.2.1 k j) = s.2.2.1 k := by
    funext a
    by_cases z : a = j
    · subst z; exact pk_us
    · exact pk_un z
  have e2 : va_up s.2.2.1 k (s.2.2.1 k) = s.2.2.1 := by
    funext a
    by_cases z : a = k
    · subst z; exact va_up_self _ _ _
    · exact va_up_ne _ _ z
  show (s.1, s.2.1, va_up s.2.2.1 k (upd (s.2.2.1 k) j (s.2.2.1 k j)), s.2.2.2) = s
  rw [e1, e2]
theorem M_writes_spec (hc : c < 16) (hp : s.2.2.1 35 c = -1 ∨ ∃ p, p ≤ 9 ∧ s.2.2.1 35 c = nI p) : ∃ r s', M_writes s (nI c) = some (r, s') ∧ WrR s c r s' := by
  have hb : ¬ (nI c < 0 ∨ 16 ≤ (nI c).toNatClampNeg) := nI_in hc (by omega)
  have ec : (nI c).toNatClampNeg = c := nI_clamp (by omega)
  have hb2 : ¬ (nI c < 0 ∨ 16 ≤ c) := nI_in2 hc (by omega)
  unfold M_writes M_writes_L84
  simp only [if_neg hb, ec, lt1, if_neg hb2]
  rcases hp with e | ⟨p, hp, e⟩
  · refine ⟨1, s, ?_, Or.inr (Or.inl ⟨e, rfl, rfl⟩)⟩
    rw [if_neg (by rw [e]; decide), if_pos (by rw [e]; decide), mA_same]
  · by_cases z : p = 0
    · subst z
      exact ⟨0, lostS s c, by rw [if_pos (show s.2.2.1 35 c = 0 from e)]; rfl, Or.inl ⟨e, rfl, rfl⟩⟩
    · obtain ⟨q, rfl⟩ : ∃ q, p = q + 1 := ⟨p - 1, by omega⟩
      refine ⟨1, mA s 35 c (nI q), ?_, Or.inr (Or.inr ⟨q, by omega, e, rfl, rfl⟩)⟩
      rw [if_neg (by rw [e]; exact nI_ne0 (by omega) (by omega)), if_neg (by rw [e]; exact nI_nle (by omega) (by omega)), e, nI_pred]
theorem WrR.w (w : W2 i u s n) (hc : c < n 0) (hW : WrR s c r s') : W2 i u s' n := by
  rcases hW with ⟨e, _, rfl⟩ | ⟨_, _, rfl⟩ | ⟨p, hp, e, _, rfl⟩
  · exact w.cd hc rfl rfl (fun j hj => by simp [cdv, lostS, mA, mL, va_up, upd, vp_updL, hj]) (Or.inl (by simp [lostS, mA, mL, va_up, upd]))
  · exact w
  · exact w.cd hc rfl rfl (fun j hj => by simp [cdv, mA, va_up, upd, hj]) (Or.inr ⟨p, by omega, by simp [mA, va_up, upd]⟩)
theorem s_lose {kc ks : Nat} {Q : Int32 → Hp → Prop} (X : CX E A h y s n cp kd fs fr cf gf) (hc : c < n 0) (hW : WrR s c r s') (hk : 1 ≤ kc ∧ 8 ≤ ks) (hQ : ∀ h' p, CX E A h' (up2 y 4 c p) s' n cp kd fs fr cf gf → xg A h h' → Q (if r = 0 then 1 else 0) h') : m_X1_losesPower E (y 3 c) h kc ks Q := by
  have x := X.card hc
  have yy : up2 y 4 c (y 4 c) = y := by
    funext k j
    by_cases z : k = 4
    · subst z
      show va_up (y 4) c (y 4 c) j = _
      by_cases w : j = c
      · subst w; exact va_up_self _ _ _
      · exact va_up_ne _ _ w
    · show va_up y 4 _ k j = _
      rw [va_up_ne _ _ z]
  refine gI_of x rfl ⟨fun q => ?_, fun q => ?_⟩
  · rcases hW with ⟨e, _⟩ | ⟨_, rfl, rfl⟩ | ⟨p, hp, e, _⟩
    · rw [e] at q; exact absurd q (by decide)
    · exact hQ h (y 4 c) (by rw [yy]; exact X) xg.rf
    · rw [e] at q
      exact absurd (show nI (p + 1) < 0 by rw [q]; decide) (nI_pos (by omega))
  · refine gI_of x rfl (pV_of x (by show 9 < 12; decide) (gI_of x.set rfl ⟨fun q2 => ?_, fun q2 => ?_⟩))
    · rcases hW with ⟨e, rfl, rfl⟩ | ⟨e, _⟩ | ⟨p, hp, e, _⟩
      · refine pV_of x.set (by show 8 < 12; decide) (pV_of x.set.set (by show 10 < 12; decide) ⟨kc - 1, ks - 8, by omega, by omega, fun p h1 hp e1 => ?_⟩)
        have x1 := x.set (e' := .inr (2, cardL y c (y 4 c) (s.2.2.1 22 c) (s.2.2.2 23 c) (s.2.2.1 24 c) (s.2.2.1 27 c) (s.2.2.1 28 c) (s.2.2.1 29 c) (s.2.2.1 30 c) (s.2.2.1 35 c - 1) (s.2.2.1 31 c)))
        have x2 := x1.set (e' := .inr (2, cardL y c (y 4 c) (s.2.2.1 22 c) (s.2.2.2 23 c) (s.2.2.1 24 c) (s.2.2.1 27 c) (s.2.2.1 28 c) (s.2.2.1 29 c) 0 (s.2.2.1 35 c - 1) (s.2.2.1 31 c)))
        have x3 := x2.set (e' := .inr (2, cardL y c (y 4 c) (s.2.2.1 22 c) (s.2.2.2 23 c) (s.2.2.1 24 c) (s.2.2.1 27 c) (s.2.2.1 28 c) (s.2.2.1 29 c) 0 (s.2.2.1 35 c - 1) 0))
        have hp0 : p ∉ h.1 := hp
        have x4 : xh_at h1 (y 3 c) (.inr (2, cardL y c (y 4 c) (s.2.2.1 22 c) (s.2.2.2 23 c) (s.2.2.1 24 c) (s.2.2.1 27 c) (s.2.2.1 28 c) (s.2.2.1 29 c) 0 (s.2.2.1 35 c - 1) 0)) := by rw [e1]; exact x3.new hp
        have pp : xh_at h1 p (.inr (6, [.int 0, .int 0, .long 0, .long 0, .int 0, .int 0, .int 0, .long 0])) := by rw [e1]; exact xh_at.newq
        have npc : p ≠ y 3 c := fun z => hp0 (by rw [z]; exact x.1)
        have g1 : xg (fun a => a = y 3 c) h h1 := by rw [e1]; exact (((xg.set (S := fun a => a = y 3 c) rfl).tr (xg.set (S := fun a => a = y 3 c) rfl)).tr (xg.set (S := fun a => a = y 3 c) rfl)).tr (xg.new hp)
        refine pV_of x4 (by show 11 < 12; decide) ?_
        obtain ⟨X', gA⟩ := X.cd (s' := lostS s c) (p := p) (x22 := s.2.2.1 22 c) (x23 := s.2.2.2 23 c) (x24 := s.2.2.1 24 c) (x27 := s.2.2.1 27 c) (x28 := s.2.2.1 28 c) (x29 := s.2.2.1 29 c) (x30 := 0) (x35 := s.2.2.1 35 c - 1) (x31 := 0) (x32 := 0) (x33 := 0) (x34 := 0) (x25 := s.2.2.2 25 c) (x26 := s.2.2.1 26 c) hc (g1.tr (xg.set rfl)) (Or.inr hp0) (by simp [cdv, lostS, mA, mL, va_up, upd, vp_updL, e]) x4.set ⟨_, _, _, _, _, _, _, _, pp.ne npc, fun z => absurd z (by decide)⟩ rfl rfl (fun j hj => by simp [cdv, lostS, mA, mL, va_up, upd, vp_updL, hj]) rfl rfl
        exact hQ _ p X' gA
      · exact absurd e q
      · rw [e, nI_pred] at q2
        exact absurd (show nI p < 0 by rw [q2]; decide) (nI_pos (by omega))
    · rcases hW with ⟨e, _⟩ | ⟨e, _⟩ | ⟨p, hp, e, rfl, rfl⟩
      · exact absurd (by rw [e]; decide) q2
      · exact absurd e q
      · obtain ⟨a1, a2, a3, a4, a5, a6, a7, a8, ap, aq⟩ := X.asked hc
        have npc : y 4 c ≠ y 3 c := nP_obj x (by decide) _ _ ap
        obtain ⟨X', gA⟩ := X.cd (s' := mA s 35 c (nI p)) (p := y 4 c) (x22 := s.2.2.1 22 c) (x23 := s.2.2.2 23 c) (x24 := s.2.2.1 24 c) (x27 := s.2.2.1 27 c) (x28 := s.2.2.1 28 c) (x29 := s.2.2.1 29 c) (x30 := s.2.2.1 30 c) (x35 := s.2.2.1 35 c - 1) (x31 := s.2.2.1 31 c) (x32 := s.2.2.2 32 c) (x33 := s.2.2.2 33 c) (x34 := s.2.2.2 34 c) (x25 := s.2.2.2 25 c) (x26 := s.2.2.1 26 c) hc (xg.set rfl) (Or.inl rfl) (by simp [cdv, mA, va_up, upd, e, nI_pred]) x.set ⟨_, _, _, _, _, _, _, _, ap.ne npc, aq⟩ rfl rfl (fun j hj => by simp [cdv, mA, va_up, upd, hj]) rfl rfl
        exact hQ _ _ X' gA
theorem s_reply {k : Nat} {kc ks : Nat} {Q : Hp → Prop} (X : CX E A h y s n cp kd fs fr cf gf) (w : W2 i u s n) (hc : c < n 0) (hk : 1 ≤ k ∧ k < 12) (he : ∀ t, 1 ≤ t → t ≤ 11 → hasK k t = true → gf t = v t) (hS : SendR s k 0 (nI c) fs fr v n r s' n') (hk1 : Fc n ≤ kc + Fc n') (hk2 : Fs n cp ≤ ks + Fs n' cp)
    (hQ : ∀ h' y', RXo E A h' y' s' n' cp → (∀ k j, k ≠ 1 → k ≠ 2 → y' k j = y k j) → xg A h h' → Q h') : m_X1_reply E (y 3 c) (some (y 0 5)) (nI k) h kc ks Q := by
  have x := X.card hc
  refine gR_of x rfl (gI_of x rfl (nN_of (gI_of X.2.1 rfl (gI_of X.2.1 rfl (nN_of (isO_of X.world (cK_of kc ks (Nat.le_refl _) (Nat.le_refl _) (s_snd X.1 w.sz hk X.2.2.2 he hS hk1 hk2 (fun h' y' R' g' hy => hQ h' y' R' hy (YS.a X.1.1 g')))))))))) 
theorem M_reply_spec {k : Nat} (hk : 1 ≤ k ∧ k < 12) (h6 : s.1 6 = nI (n 2)) (hn : n 2 ≤ 60) {V : MS → Prop} (h : ∀ r s' n', SendR s k 0 (nI c) (s.1 13) (s.1 14) (s.2.2.2 18) n r s' n' → V s') : Mv (M_reply s (nI k) (nI c)) V := by
  obtain ⟨r, s', n', e, hS⟩ := M_send_spec (n := n) (so := 0) (nu := nI c) (oso := s.1 13) (onu := s.1 14) hk h6 hn
  unfold M_reply
  rw [e]
  exact ⟨s', rfl, h r s' n' hS⟩
theorem SealR.sc {key : Int32} {rs : Nat} {g : Nat → Int64} (hS : SealR s key rs g n cp r s' n' cp') : (∀ k, k ≠ 3 → s'.2.2.2 k = s.2.2.2 k) ∧ (∀ k, k ≠ 0 → s'.1 k = s.1 k) ∧ (∀ k, k ≠ 1 → k ≠ 2 → s'.2.2.1 k = s.2.2.1 k) ∧ s'.2.1 = s.2.1 := by
  rcases hS with ⟨_, _, _, _, _, rfl, _⟩ | ⟨_, _, rfl, _⟩
  · exact ⟨fun _ _ => rfl, fun _ _ => rfl, fun _ _ _ => rfl, rfl⟩
  · exact ⟨fun k hk => va_up_ne _ _ hk, fun k hk => va_up_ne _ _ hk, fun k h1 h2 => by show va_up (va_up _ 1 _) 2 _ k = _; rw [va_up_ne _ _ h2, va_up_ne _ _ h1], rfl⟩
theorem keyc (so m : Nat) : (256 : Int32) * nI so + ((nI m).toInt64).toInt32 = nI (256 * so + m) := by
  rw [Int32.toInt32_toInt64, show (256 : Int32) = nI 256 from rfl, pk_mul, nI_add]
theorem RS.re {h0 : Hp} {so nu : Nat} {l l' : List Int64} (S : RS E A h0 h y s n cp so nu l) (e : vis s' = vis s) (hl : l' = l) : RS E A h h y s' n cp so nu l' := by
  subst hl
  exact ⟨S.1.eqv e, xg.rf, S.2.2⟩
theorem SendR.w {k : Nat} {so nu oso onu : Int32} (hS : SendR s k so nu oso onu v n r s' n') (hk : 1 ≤ k ∧ k < 12) (w : W2 i u s n) (a1 : Ad n so nu) (a2 : Ad n oso onu) : W2 i u s' n' := w.send hk a1 a2 hS
theorem SealR.w {key : Int32} {rs : Nat} {g : Nat → Int64} (hS : SealR s key rs g n cp r s' n' cp') (hr : rs ≤ 12) (hu : n 4 < 2048) (w : W2 i u s n) : W2 i (u + 1) s' n' := w.seal hr hu hS
theorem up2_up2 {k j a b : Nat} : up2 (up2 y k j a) k j b = up2 y k j b := by
  unfold up2
  rw [va_up2]
  show va_up y k (va_up (va_up y k (va_up (y k) j a) k) j b) = _
  rw [va_up_self, va_up2]
end CXS
