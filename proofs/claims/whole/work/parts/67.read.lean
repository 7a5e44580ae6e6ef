/-! a message is read -/
def nmb (F : Nat → Int32) (p : Nat) : Nat → Int64
  | 0 => 0
  | i + 1 => nmb F p i * 256 + (F (p + i)).toInt64
def fok (F : Nat → Int32) (sz k t : Nat) : Prop := szK k t + 2 + lenT (t + 1) ≤ sz ∧ F (szK k t) = nI (t + 1) ∧ F (szK k t + 1) = nI (lenT (t + 1))
def rok (F : Nat → Int32) (sz k t : Nat) : Prop := (∀ j, t ≤ j → j < 11 → hasK k (j + 1) = true → fok F sz k j) ∧ szK k 11 = sz
def g17 (s : MS) (g : Nat → Int64) : MS := (s.1, s.2.1, s.2.2.1, va_up s.2.2.2 17 g)
section READ
variable {E : Ev} {A S : Nat → Prop} {h h' : Hp} {y y' : Nat → Nat → Nat} {s s' : MS} {n cp n' cp' : Nat → Nat} {i u k m kc ks sz : Nat} {r : Int32} {F f : Nat → Int32} {kd fs fr : Int32} {cf gf : Nat → Int64}
theorem nmb_c {F f : Nat → Int32} {p : Nat} : ∀ l, (∀ a, p ≤ a → a < p + l → f a = F a) → nmb f p l = nmb F p l := by
  intro l
  induction l with
  | zero => intro _; rfl
  | succ l ih =>
    intro he
    show nmb f p l * 256 + (f (p + l)).toInt64 = nmb F p l * 256 + (F (p + l)).toInt64
    rw [ih (fun a h1 h2 => he a h1 (by omega)), he (p + l) (by omega) (by omega)]
theorem g17_g (s : MS) (g : Nat → Int64) (j : Nat) (v : Int64) : mL (g17 s g) 17 j v = g17 s (vp_updL g j v) := by
  show (s.1, s.2.1, s.2.2.1, va_up (va_up s.2.2.2 17 g) 17 (vp_updL (va_up s.2.2.2 17 g 17) j v)) = _
  rw [va_up2, va_up_self]
  rfl
theorem g17_17 (s : MS) (g : Nat → Int64) : (g17 s g).2.2.2 17 = g := by show va_up s.2.2.2 17 g 17 = g; exact va_up_self _ _ _
theorem vis_g17 (s : MS) (g : Nat → Int64) : vis (g17 s g) = vis s := rfl
theorem szK_step {t : Nat} (hh : hasK k (t + 1) = true) : szK k (t + 1) = szK k t + (2 + lenT (t + 1)) := by
  show szK k t + (if hasK k (t + 1) then 2 + lenT (t + 1) else 0) = _
  rw [hh]; rfl
theorem szK_skip {t : Nat} (hh : hasK k (t + 1) = false) : szK k (t + 1) = szK k t := by
  show szK k t + (if hasK k (t + 1) then 2 + lenT (t + 1) else 0) = _
  rw [hh]; rfl
theorem rok_y {t : Nat} (ht : t < 11) (hh : hasK k (t + 1) = true) (hf : fok F sz k t) : rok F sz k t ↔ rok F sz k (t + 1) := by
  constructor
  · rintro ⟨h1, h2⟩
    exact ⟨fun j a b c => h1 j (by omega) b c, h2⟩
  · rintro ⟨h1, h2⟩
    refine ⟨fun j a b c => ?_, h2⟩
    by_cases z : j = t
    · subst z; exact hf
    · exact h1 j (by omega) b c
theorem rok_n {t : Nat} (hh : hasK k (t + 1) = false) : rok F sz k t ↔ rok F sz k (t + 1) := by
  constructor
  · rintro ⟨h1, h2⟩
    exact ⟨fun j a b c => h1 j (by omega) b c, h2⟩
  · rintro ⟨h1, h2⟩
    refine ⟨fun j a b c => ?_, h2⟩
    by_cases z : j = t
    · subst z; rw [hh] at c; cases c
    · exact h1 j (by omega) b c
theorem rdM_in {p t len : Nat} {v1 : Int32} (ht : t < 12) (hp : p + 2 + len ≤ 64) (h15 : ∀ a, a < 64 → s.2.2.1 15 a = F a) (K : MS → Int32 → Int32 → Int32 → Option (Int32 × MS)) (g : Nat → Int64) : ∀ d i m, len - i = d → i ≤ len → d < m → M_read_L88 m (g17 s g) v1 (nI p) (nI t) (nI len) (nmb F (p + 2) i) (nI i) K = K (g17 s (vp_updL g t (nmb F (p + 2) len))) v1 (nI (p + (2 + len))) (nI (t + 1)) := by
  intro d
  induction d with
  | zero =>
    intro i m hd hi hm
    obtain ⟨m, rfl⟩ : ∃ m', m = m' + 1 := ⟨m - 1, by omega⟩
    have : i = len := by omega
    subst this
    rw [M_read_L88, if_pos (Int32.le_refl _), if_neg (nI_in ht (by omega)), nI_clamp (by omega)]
    dsimp only [lt1]
    rw [g17_g]
    unfold M_read_L137
    rw [nI_1, show (2 : Int32) + nI i = nI (2 + i) from nI_add 2 i, nI_add]
  | succ d ih =>
    intro i m hd hi hm
    obtain ⟨m, rfl⟩ : ∃ m', m = m' + 1 := ⟨m - 1, by omega⟩
    have e : nI p + 2 + nI i = nI (p + 2 + i) := by rw [show nI p + 2 = nI (p + 2) from nI_add p 2, nI_add]
    rw [M_read_L88, if_neg (nI_ge (by omega) (by omega)), e, if_neg (nI_in (by omega) (by omega)), nI_clamp (by omega), nI_1]
    have e2 : (256 : Int64) * nmb F (p + 2) i + ((g17 s g).2.2.1 15 (p + 2 + i)).toInt64 = nmb F (p + 2) (i + 1) := by
      show (256 : Int64) * nmb F (p + 2) i + (s.2.2.1 15 (p + 2 + i)).toInt64 = nmb F (p + 2) i * 256 + (F (p + 2 + i)).toInt64
      rw [h15 _ (by omega), Int64.mul_comm]
    rw [e2]
    exact ih (i + 1) m (by omega) (by omega) (by omega)
theorem rdM (hk : 1 ≤ k ∧ k < 12) (h16 : s.1 16 = nI sz) (hsz : sz ≤ 64) (h15 : ∀ a, a < 64 → s.2.2.1 15 a = F a) : ∀ d t m g, 11 - t = d → t ≤ 11 → d < m → Mw (M_read_L24 m (g17 s g) (nI k) (nI (szK k t)) (nI (t + 1))) (fun r s' => ∃ g', s' = g17 s g' ∧ (rok F sz k t → r = nI k ∧ (∀ j, t ≤ j → j < 11 → hasK k (j + 1) = true → g' (j + 1) = nmb F (szK k j + 2) (lenT (j + 1))) ∧ ∀ j, j ≤ t → g' j = g j) ∧ (¬ rok F sz k t → r = 0)) := by
  intro d
  induction d with
  | zero =>
    intro t m g hd ht hm
    obtain ⟨m, rfl⟩ : ∃ m', m = m' + 1 := ⟨m - 1, by omega⟩
    have : t = 11 := by omega
    subst this
    have hs := szK_le k hk.2 11 (by omega)
    rw [M_read_L24, if_pos (show (11 : Int32) < nI (11 + 1) by decide)]
    have e16 : (g17 s g).1 16 = nI sz := h16
    rw [e16]
    refine Mw.i (fun q => Mw.r ⟨g, rfl, fun _ => ⟨rfl, fun j a b _ => by omega, fun _ _ => rfl⟩, fun z => absurd ⟨fun j a b _ => by omega, (nI_eq (by omega) (by omega)).mp q⟩ z⟩) (fun q => Mw.r ⟨g, rfl, fun z => absurd (by rw [z.2]) q, fun _ => rfl⟩)
  | succ d ih =>
    intro t m g hd ht hm
    obtain ⟨m, rfl⟩ : ∃ m', m = m' + 1 := ⟨m - 1, by omega⟩
    have hs := szK_le k hk.2 t (by omega)
    have hl := (lenT_le (t + 1) (by omega)).1
    rw [M_read_L24, if_neg (show ¬ (11 : Int32) < nI (t + 1) from nI_nlt (a := 11) (by omega) (by omega)), M_has_eq _ hk (by omega)]
    cases hh : hasK k (t + 1) with
    | false =>
      refine Mw.b (Mw.r ?_)
      dsimp only [lt1]
      refine Mw.y (by simp) ?_
      unfold M_read_L137
      rw [nI_1]
      have := ih (t + 1) m g (by omega) (by omega) (by omega)
      rw [szK_skip hh] at this
      refine this.m (fun r s' hq => ?_)
      obtain ⟨g', e, p1, p0⟩ := hq
      refine ⟨g', e, fun z => ?_, fun z => p0 (fun z2 => z ((rok_n hh).mpr z2))⟩
      obtain ⟨a1, a2, a3⟩ := p1 ((rok_n hh).mp z)
      refine ⟨a1, fun j b1 b2 b3 => ?_, fun j b1 => a3 j (by omega)⟩
      by_cases zj : j = t
      · subst zj; rw [hh] at b3; cases b3
      · exact a2 j (by omega) b2 b3
    | true =>
      refine Mw.b (Mw.r ?_)
      dsimp only [lt1]
      refine Mw.no (by simp) ?_
      rw [M_len_eq _ (by omega)]
      refine Mw.b (Mw.r ?_)
      dsimp only [lt1]
      have e16 : (g17 s g).1 16 = nI sz := h16
      have ep : nI (szK k t) + 2 + nI (lenT (t + 1)) = nI (szK k t + 2 + lenT (t + 1)) := by rw [show nI (szK k t) + 2 = nI (szK k t + 2) from nI_add _ 2, nI_add]
      rw [e16, ep, nI_1]
      have bad : ¬ fok F sz k t → ∃ g', g17 s g = g17 s g' ∧ (rok F sz k t → (0 : Int32) = nI k ∧ (∀ j, t ≤ j → j < 11 → hasK k (j + 1) = true → g' (j + 1) = nmb F (szK k j + 2) (lenT (j + 1))) ∧ ∀ j, j ≤ t → g' j = g j) ∧ (¬ rok F sz k t → (0 : Int32) = 0) := fun z => ⟨g, rfl, fun q => absurd (q.1 t (Nat.le_refl _) (by omega) hh) z, fun _ => rfl⟩
      refine Mw.i (fun q => Mw.r (bad (fun z => ?_))) (fun q => ?_)
      · have := (nI_ltI (by omega) (by omega)).mp q
        have := z.1
        omega
      have q' : szK k t + 2 + lenT (t + 1) ≤ sz := Nat.le_of_not_lt (fun z => q ((nI_ltI (by omega) (by omega)).mpr z))
      refine Mw.n (nI_in (by omega) (by omega)) ?_
      rw [nI_clamp (by omega)]
      have e15 : ∀ a, a < 64 → (g17 s g).2.2.1 15 a = F a := h15
      rw [e15 _ (by omega)]
      refine Mw.i (fun a1 => Mw.n (nI_in (by omega) (by omega)) ?_) (fun a1 => Mw.r (bad (fun z => a1 z.2.1)))
      rw [nI_clamp (by omega), e15 _ (by omega)]
      refine Mw.i (fun a2 => ?_) (fun a2 => Mw.r (bad (fun z => a2 z.2.2)))
      have hfok : fok F sz k t := ⟨q', a1, a2⟩
      have := rdM_in (s := s) (F := F) (v1 := nI k) (t := t + 1) (p := szK k t) (len := lenT (t + 1)) (by omega) (by omega) h15 (fun sk xv1k xv2k xv3k => M_read_L24 m sk xv1k xv2k xv3k) g (lenT (t + 1)) 0 mfu (by omega) (by omega) (by unfold mfu; omega)
      rw [show nmb F (szK k t + 2) 0 = 0 from rfl, nI_0] at this
      rw [this]
      have I := ih (t + 1) m (vp_updL g (t + 1) (nmb F (szK k t + 2) (lenT (t + 1)))) (by omega) (by omega) (by omega)
      rw [szK_step hh] at I
      refine I.m (fun r s' hq => ?_)
      obtain ⟨g', e, p1, p0⟩ := hq
      refine ⟨g', e, fun z => ?_, fun z => p0 (fun z2 => z ((rok_y (by omega) hh hfok).mpr z2))⟩
      obtain ⟨b1, b2, b3⟩ := p1 ((rok_y (by omega) hh hfok).mp z)
      refine ⟨b1, fun j c1 c2 c3 => ?_, fun j c1 => ?_⟩
      · by_cases zj : j = t
        · subst zj; rw [b3 (j + 1) (by omega), pk_uLs]
        · exact b2 j (by omega) c2 c3
      · rw [b3 j (by omega), pk_uLn (by omega)]
theorem CX.cs (X : CX E A h y s n cp kd fs fr cf gf) (t : Nat) (w : Int64) : CX E A (xh_set h (y 0 7) (.inl (E.1 1, 12, .inr (.inl (vp_updL cf t w))))) y s n cp kd fs fr (vp_updL cf t w) gf ∧ xg A h (xh_set h (y 0 7) (.inl (E.1 1, 12, .inr (.inl (vp_updL cf t w))))) := by
  obtain ⟨R, x1, x2, x3⟩ := X
  refine ⟨⟨R.tmp (j := 7) (Or.inr (Or.inr (Or.inr (Or.inr (Or.inl ⟨rfl, _, rfl⟩))))), x1.ne (R.1.ne (lyc (by omega)) (lyc (by omega)) (by omega)), x2.set, x3.ne (R.1.ne (lyc (by omega)) (lyc (by omega)) (by omega))⟩, xg.set (R.1.2.1 0 7 (lyc (by omega)))⟩
theorem rdX_in {q b : Nat} {mo : List Value} (hq : xh_at h q (.inr (5, mo))) (e5 : mo[5]? = some (.ref b)) (hb : xh_at h b (.inl (E.1 0, 64, .inl f))) {p len : Nat} (hp : p + len ≤ 64) {Q : Int64 → Hp → Prop} (hQ : Q (nmb f p len) h) : ∀ d i, len - i = d → i ≤ len → m_X4_numberAt_L5 (d + 1) E q (nI p) (nI len) (nmb f p i) (nI i) h kc ks Q := by
  intro d
  induction d with
  | zero =>
    intro i hd hi
    have : i = len := by omega
    subst this
    exact ⟨fun _ => hQ, fun z => absurd (Int32.le_refl _) z⟩
  | succ d ih =>
    intro i hd hi
    refine ⟨fun z => absurd z (nI_ge (by omega) (by omega)), fun _ => gR_of hq e5 (nN_of (aI_of hb (nI_add p i) (by omega) (by omega) rfl ?_))⟩
    rw [nI_1]
    exact ih (i + 1) (by omega) (by omega)
theorem rdX {q b : Nat} {m0 m1 m2 m3 : Int32} (hk : 1 ≤ k ∧ k < 12) (hsz : sz ≤ 64) (hfF : ∀ a, a < sz → f a = F a) {Q : Int32 → Hp → Prop} : ∀ d t h cf, 11 - t = d → t ≤ 11 → CX E A h y s n cp (nI k) fs fr cf gf → xh_at h q (.inr (5, mg m0 m1 m2 m3 (nI sz) b)) → xh_at h b (.inl (E.1 0, 64, .inl f)) → (rok F sz k t → ∀ h' cf', CX E A h' y s n cp (nI k) fs fr cf' gf → xh_at h' q (.inr (5, mg m0 m1 m2 m3 (nI sz) b)) → (∀ j, t ≤ j → j < 11 → hasK k (j + 1) = true → cf' (j + 1) = nmb F (szK k j + 2) (lenT (j + 1))) → (∀ j, j ≤ t → cf' j = cf j) → xg A h h' → Q 1 h') → (¬ rok F sz k t → ∀ h' cf', CX E A h' y s n cp (nI k) fs fr cf' gf → xg A h h' → Q 0 h') → m_X4_read_L60 (d + 1) E q (some (y 0 5)) (nI (szK k t)) (nI (t + 1)) h kc ks Q := by
  intro d
  induction d with
  | zero =>
    intro t h cf hd ht X hq hb h1 h0
    have : t = 11 := by omega
    subst this
    have hs := szK_le k hk.2 11 (by omega)
    refine ⟨fun _ => gI_of hq rfl ⟨fun z => h1 ⟨fun j a b _ => by omega, (nI_eq (by omega) (by omega)).mp z⟩ h cf X hq (fun j a b _ => by omega) (fun _ _ => rfl) xg.rf, fun z => h0 (fun z2 => z (by rw [z2.2])) h cf X xg.rf⟩, fun z => absurd (by decide) z⟩
  | succ d ih =>
    intro t h cf hd ht X hq hb h1 h0
    have hs := szK_le k hk.2 t (by omega)
    have hl := (lenT_le (t + 1) (by omega)).1
    refine ⟨fun z => absurd z (show ¬ (12 : Int32) ≤ nI (t + 1) from nI_ge (b := 12) (by omega) (by omega)), fun _ => nN_of (gI_of X.2.1 rfl (s_has hk.2 ?_))⟩
    cases hh : hasK k (t + 1) with
    | false =>
      refine ⟨fun _ => ?_, fun z => absurd (by simp) z⟩
      show m_X4_read_L60 (d + 1) E q (some (y 0 5)) (nI (szK k t)) (nI (t + 1) + 1) h kc ks Q
      rw [nI_1, ← szK_skip hh]
      refine ih (t + 1) h cf (by omega) (by omega) X hq hb (fun z h' cf' X' q' c1 c2 g' => h1 ((rok_n hh).mpr z) h' cf' X' q' (fun j a b c => ?_) (fun j a => c2 j (by omega)) g') (fun z => h0 (fun z2 => z ((rok_n hh).mp z2)))
      by_cases zj : j = t
      · subst zj; rw [hh] at c; cases c
      · exact c1 j (by omega) b c
    | true =>
      refine ⟨fun z => absurd z (by simp), fun _ => isO_of hq ?_⟩
      have bad : ¬ fok F sz k t → br ((0 : Int32) = 0) (Q 0 h) (gR h (y 0 5) 3 3 fun r49 => rI 1 (nI (t + 1)) fun x52 => isO h q 5 (m_X4_numberAt E q (nI (szK k t) + 2) x52 h 0 0 (fun y54 h55 => nN r49 fun a57 => sL E h55 1 a57 (nI (t + 1)) y54 fun h58 => rI 1 (nI (t + 1)) fun x61 => m_X4_read_L116 E q (some (y 0 5)) (nI (szK k t) + (2 + x61)) (nI (t + 1)) h58 kc ks (fun a0k rv1k xv2k xv3k hk kck ksk => m_X4_read_L60 (d + 1) E a0k rv1k xv2k xv3k hk kck ksk Q) Q))) := fun z => ⟨fun _ => h0 (fun z2 => z (z2.1 t (Nat.le_refl _) (by omega) hh)) h cf X xg.rf, fun z => absurd rfl z⟩
      have ep : nI (szK k t) + 2 + nI (lenT (t + 1)) = nI (szK k t + 2 + lenT (t + 1)) := by rw [show nI (szK k t) + 2 = nI (szK k t + 2) from nI_add _ 2, nI_add]
      refine rI1_of (by omega) (gI_of hq rfl ⟨fun z => bad (fun w => ?_), fun z => ?_⟩)
      · rw [ep] at z
        have := (nI_ltI (by omega) (by omega)).mp z
        have := w.1
        omega
      rw [ep] at z
      have q' : szK k t + 2 + lenT (t + 1) ≤ sz := Nat.le_of_not_lt (fun w => z ((nI_ltI (by omega) (by omega)).mpr w))
      refine gR_of hq rfl (nN_of (aI_of hb rfl (by omega) (by omega) (hfF _ (by omega)) ⟨fun a1 => gR_of hq rfl (nN_of (aI_of hb (nI_1 _) (by omega) (by omega) (hfF _ (by omega)) (rI1_of (by omega) ⟨fun a2 => ?_, fun a2 => bad (fun w => a2 w.2.2)⟩))), fun a1 => bad (fun w => a1 w.2.1)⟩))
      have hfok : fok F sz k t := ⟨q', a1, a2⟩
      refine ⟨fun z => absurd z (by decide), fun _ => gR_of X.2.1 rfl (rI1_of (by omega) (isO_of hq ⟨lenT (t + 1) + 1, ?_⟩))⟩
      rw [show nI (szK k t) + 2 = nI (szK k t + 2) from nI_add _ 2]
      refine rdX_in hq rfl hb (p := szK k t + 2) (len := lenT (t + 1)) (by omega) ?_ (lenT (t + 1)) 0 (by omega) (by omega)
      refine nN_of (sL_of X.2.2.1 (j := t + 1) rfl (by omega) (by omega) (rI1_of (by omega) ?_))
      show m_X4_read_L60 (d + 1) E q (some (y 0 5)) (nI (szK k t) + (2 + nI (lenT (t + 1)))) (nI (t + 1) + 1) _ kc ks Q
      rw [nI_1, show (2 : Int32) + nI (lenT (t + 1)) = nI (2 + lenT (t + 1)) from nI_add 2 _, nI_add, ← szK_step hh, nmb_c (F := F) (lenT (t + 1)) (fun a b1 b2 => hfF a (by omega))]
      obtain ⟨X', g'⟩ := X.cs (t + 1) (nmb F (szK k t + 2) (lenT (t + 1)))
      have nq : q ≠ y 0 7 := hq.neq X.2.2.1 (by intro z; cases z)
      have nb : b ≠ y 0 7 := hb.neq X.2.2.1 (by intro z; injection z with z; injection z with _ z; injection z with _ z; cases z)
      refine ih (t + 1) _ _ (by omega) (by omega) X' (hq.ne nq) (hb.ne nb) (fun z h2 cf' X2 q2 c1 c2 g2 => h1 ((rok_y (by omega) hh hfok).mpr z) h2 cf' X2 q2 (fun j a b c => ?_) (fun j a => ?_) (g'.tr g2)) (fun z h2 cf' X2 g2 => h0 (fun z2 => z ((rok_y (by omega) hh hfok).mp z2)) h2 cf' X2 (g'.tr g2))
      · by_cases zj : j = t
        · subst zj; rw [c2 (j + 1) (by omega), pk_uLs]
        · exact c1 j (by omega) b c
      · rw [c2 j (by omega), pk_uLn (by omega)]
end READ
