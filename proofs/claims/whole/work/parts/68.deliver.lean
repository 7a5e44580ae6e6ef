/-! deliver -/
def f15 (s : MS) (f : Nat → Int32) : MS := (s.1, s.2.1, va_up s.2.2.1 15 f, s.2.2.2)
def hdS (s : MS) (a b c : Int32) : MS := mI (mI (mI s 13 a) 14 b) 16 c
def dlT (s : MS) (k : Nat) (v2 v3 : Int32) : Option (Int32 × MS) := (M_remove s (nI k)).bind fun s18 => (M_read s18).bind fun px21 => if px21.1 = 0 then M_deliver_L153 px21.2 else if v2 = 0 then (M_toCard px21.2 v3 px21.1).bind fun px36 => if px36.1 = 0 then M_deliver_L153 px36.2 else M_deliver_L149 px36.2 else if v2 = 1 then (M_toTerminal px21.2 v3 px21.1).bind fun px30 => if px30.1 = 0 then M_deliver_L153 px30.2 else M_deliver_L149 px30.2 else (M_toHost px21.2 px21.1).bind fun px25 => if px25.1 = 0 then M_deliver_L153 px25.2 else M_deliver_L149 px25.2
section DELIVER
variable {E : Ev} {A S : Nat → Prop} {h h' : Hp} {y y' : Nat → Nat → Nat} {s s' : MS} {n cp n' cp' : Nat → Nat} {i u k m kc ks sz : Nat} {r : Int32} {F f : Nat → Int32} {kd fs fr : Int32} {cf gf : Nat → Int64}
theorem vis_hd (s : MS) (a b c : Int32) (f : Nat → Int32) (k m : Nat) : vis (remS (f15 (hdS s a b c) f) k m) = vis (remS s k m) := rfl
theorem dl_loop {v2 v3 : Int32} (hk : k < 60) : ∀ d j m f, 64 - j = d → j ≤ 64 → d < m → (∀ a, a < j → f a = s.2.2.1 12 (64 * k + a)) → ∃ f', M_deliver_L57 m (f15 s f) (nI k) v2 v3 (nI j) = dlT (f15 s f') k v2 v3 ∧ ∀ a, a < 64 → f' a = s.2.2.1 12 (64 * k + a) := by
  intro d
  induction d with
  | zero =>
    intro j m f hd hj hm hf
    obtain ⟨m, rfl⟩ : ∃ m', m = m' + 1 := ⟨m - 1, by omega⟩
    have : j = 64 := by omega
    subst this
    refine ⟨f, ?_, hf⟩
    rw [M_deliver_L57, if_pos (show (64 : Int32) ≤ nI 64 by decide)]
    rfl
  | succ d ih =>
    intro j m f hd hj hm hf
    obtain ⟨m, rfl⟩ : ∃ m', m = m' + 1 := ⟨m - 1, by omega⟩
    have e2 : (64 : Int32) * nI k + nI j = nI (64 * k + j) := by rw [show (64 : Int32) * nI k = nI (64 * k) from pk_mul 64 _, nI_add]
    rw [M_deliver_L57, if_neg (show ¬ (64 : Int32) ≤ nI j from nI_ge (b := 64) (by omega) (by omega)), e2, if_neg (nI_in (by omega) (by omega)), if_neg (nI_in (by omega) (by omega)), nI_clamp (by omega), nI_clamp (by omega), nI_1]
    have e3 : mA (f15 s f) 15 j ((f15 s f).2.2.1 12 (64 * k + j)) = f15 s (upd f j (s.2.2.1 12 (64 * k + j))) := by
      show (s.1, s.2.1, va_up (va_up s.2.2.1 15 f) 15 (upd (va_up s.2.2.1 15 f 15) j _), s.2.2.2) = _
      rw [va_up2, va_up_self]
      rfl
    show ∃ f', M_deliver_L57 m (mA (f15 s f) 15 j ((f15 s f).2.2.1 12 (64 * k + j))) (nI k) v2 v3 (nI (j + 1)) = _ ∧ _
    rw [e3]
    refine ih (j + 1) m _ (by omega) (by omega) (by omega) (fun a ha => ?_)
    by_cases z : a = j
    · subst z; rw [pk_us]
    · rw [pk_un z]; exact hf a (by omega)
theorem f15_id (s : MS) : f15 s (s.2.2.1 15) = s := by
  have : va_up s.2.2.1 15 (s.2.2.1 15) = s.2.2.1 := by
    funext a
    by_cases z : a = 15
    · subst z; exact va_up_self _ _ _
    · exact va_up_ne _ _ z
  show (s.1, s.2.1, va_up s.2.2.1 15 (s.2.2.1 15), s.2.2.2) = s
  rw [this]
theorem g17_id (s : MS) : g17 s (s.2.2.2 17) = s := by
  have : va_up s.2.2.2 17 (s.2.2.2 17) = s.2.2.2 := by
    funext a
    by_cases z : a = 17
    · subst z; exact va_up_self _ _ _
    · exact va_up_ne _ _ z
  show (s.1, s.2.1, s.2.2.1, va_up s.2.2.2 17 (s.2.2.2 17)) = s
  rw [this]
theorem lt1_e {α β : Type} (a : α) (f : α → β) : lt1 a f = f a := Eq.trans (Eq.refl _) (Eq.refl _)
theorem M_deliver_e0 {n2 : Nat} (h6 : s.1 6 = nI n2) (hn : n2 ≤ 60) (hk : k < n2) : M_deliver s (nI k) = M_deliver_L57 mfu (hdS s (s.2.2.1 7 k) (s.2.2.1 8 k) (s.2.2.1 11 k)) (nI k) (s.2.2.1 9 k) (s.2.2.1 10 k) 0 := by
  have cc : (nI k).toNatClampNeg = k := nI_clamp (by omega)
  have cb : (nI k < 0 ∨ 60 ≤ k) = False := ixF (by omega) (by omega)
  have q1 : ¬ nI k < 0 := nI_pos (by omega)
  have q2 : ¬ nI n2 ≤ nI k := nI_ge (by omega) (by omega)
  have e1 : M_isMessage s (nI k) = some (1, s) := by
    unfold M_isMessage
    rw [if_neg q1, h6, if_neg q2]
  unfold M_deliver
  generalize mfu = fu
  rw [e1, Option.bind_some]
  rw [lt1_e, lt1_e, if_neg (show ¬ (1 : Int32) = 0 by decide), if_neg (nI_in (by omega) (by omega)), if_neg (nI_in (by omega) (by omega)), if_neg (nI_in (by omega) (by omega)), lt1_e, if_neg (nI_in (by omega) (by omega)), lt1_e, if_neg (nI_in (by omega) (by omega)), lt1_e, cc]
  rfl
theorem M_deliver_eq (R : RXn s n cp) (hk : k < n 2) : ∃ f', M_deliver s (nI k) = dlT (f15 (hdS s (s.2.2.1 7 k) (s.2.2.1 8 k) (s.2.2.1 11 k)) f') k (s.2.2.1 9 k) (s.2.2.1 10 k) ∧ ∀ a, a < 64 → f' a = s.2.2.1 12 (64 * k + a) := by
  have hn := R.2.2.1
  rw [M_deliver_e0 hn.1 (by omega) hk]
  have e12 : (hdS s (s.2.2.1 7 k) (s.2.2.1 8 k) (s.2.2.1 11 k)).2.2.1 = s.2.2.1 := rfl
  generalize hdS s (s.2.2.1 7 k) (s.2.2.1 8 k) (s.2.2.1 11 k) = sH at e12 ⊢
  obtain ⟨f', e, hf⟩ := dl_loop (s := sH) (v2 := s.2.2.1 9 k) (v3 := s.2.2.1 10 k) (k := k) (by omega) 64 0 mfu (sH.2.2.1 15) (by omega) (by omega) (by unfold mfu; omega) (fun a ha => by omega)
  rw [f15_id, nI_0] at e
  exact ⟨f', e, fun a ha => by rw [hf a ha, e12]⟩
theorem M_read_spec {b0 : Nat} (h15 : ∀ a, a < 64 → s.2.2.1 15 a = F a) (h16 : s.1 16 = nI sz) (hsz : sz ≤ 64) (hb : F 0 = nI b0) (hb0 : b0 ≤ 255) : Mw (M_read s) (fun r s' => ∃ g', s' = g17 s g' ∧ (1 ≤ b0 → b0 ≤ 11 → rok F sz b0 0 → r = nI b0 ∧ ∀ j, j < 11 → hasK b0 (j + 1) = true → g' (j + 1) = nmb F (szK b0 j + 2) (lenT (j + 1))) ∧ (¬ (1 ≤ b0 ∧ b0 ≤ 11 ∧ rok F sz b0 0) → r = 0)) := by
  have e0 : s.2.2.1 15 ((0 : Int32)).toNatClampNeg = nI b0 := by
    show s.2.2.1 15 0 = _
    rw [h15 0 (by omega), hb]
  unfold M_read
  refine Mw.n (by decide) ?_
  rw [e0]
  have no : ¬ (1 ≤ b0 ∧ b0 ≤ 11) → ∃ g', s = g17 s g' ∧ (1 ≤ b0 → b0 ≤ 11 → rok F sz b0 0 → (0 : Int32) = nI b0 ∧ ∀ j, j < 11 → hasK b0 (j + 1) = true → g' (j + 1) = nmb F (szK b0 j + 2) (lenT (j + 1))) ∧ (¬ (1 ≤ b0 ∧ b0 ≤ 11 ∧ rok F sz b0 0) → (0 : Int32) = 0) := fun z => ⟨_, (g17_id s).symm, fun a b => absurd ⟨a, b⟩ z, fun _ => rfl⟩
  refine Mw.i (fun q => Mw.r (no (fun z => ?_))) (fun q => Mw.i (fun q2 => ?_) (fun q2 => Mw.r (no (fun z => ?_))))
  · have := (nI_ltI (b := 1) (by omega) (by omega)).mp q
    omega
  · have h1 : 1 ≤ b0 := Nat.le_of_not_lt (fun z => q ((nI_ltI (b := 1) (by omega) (by omega)).mpr z))
    have h2 : b0 ≤ 11 := (nI_leI (b := 11) (by omega) (by omega)).mp q2
    have := rdM (s := s) (F := F) (k := b0) (sz := sz) ⟨h1, by omega⟩ h16 hsz h15 11 0 mfu (s.2.2.2 17) (by omega) (by omega) (by unfold mfu; omega)
    rw [g17_id] at this
    refine Mw.m this (fun r s' hq => ?_)
    obtain ⟨g', e, p1, p0⟩ := hq
    exact ⟨g', e, fun _ _ z => ⟨(p1 z).1, fun j a b => (p1 z).2.1 j (by omega) a b⟩, fun z => p0 (fun w => z ⟨h1, h2, w⟩)⟩
  · exact q2 ((nI_leI (b := 11) (by omega) (by omega)).mpr z.2)
theorem CX.of (R : RXo E A h y s n cp) : ∃ kd fs fr cf gf, CX E A h y s n cp kd fs fr cf gf := by
  obtain ⟨f0, f1, f2, f3, f4, f5, f6, ⟨a, b, c, f7⟩, f8, ⟨g9, f9⟩, ⟨g10, f10⟩, f11⟩ := id R.2.2.1
  exact ⟨a, b, c, g9, g10, R, f7, f9, f10⟩
theorem CX.kw (X : CX E A h y s n cp kd fs fr cf gf) (a b c : Int32) : CX E A (xh_set h (y 0 5) (.inr (3, [.int a, .int b, .int c, .ref (y 0 7)]))) y s n cp a b c cf gf ∧ xg A h (xh_set h (y 0 5) (.inr (3, [.int a, .int b, .int c, .ref (y 0 7)]))) := by
  obtain ⟨R, x1, x2, x3⟩ := X
  exact ⟨⟨R.tmp (j := 5) (Or.inr (Or.inr (Or.inl ⟨rfl, _, _, _, rfl⟩))), x1.set, x2.ne (R.1.ne (lyc (by omega)) (lyc (by omega)) (by omega)), x3.ne (R.1.ne (lyc (by omega)) (lyc (by omega)) (by omega))⟩, xg.set (R.1.2.1 0 5 (lyc (by omega)))⟩
theorem s_read {b0 q b : Nat} {m0 m1 m2 m3 : Int32} {Q : Int32 → Hp → Prop} (R : RXo E A h y s n cp) (hq : xh_at h q (.inr (5, mg m0 m1 m2 m3 (nI sz) b))) (hb : xh_at h b (.inl (E.1 0, 64, .inl f))) (hsz : sz ≤ 64) (hfF : ∀ a, a < sz → f a = F a) (hF : F 0 = nI b0) (hb0 : b0 ≤ 255)
    (h1 : 1 ≤ b0 → b0 ≤ 11 → rok F sz b0 0 → ∀ h' cf' gf', CX E A h' y s n cp (nI b0) m0 m1 cf' gf' → xh_at h' q (.inr (5, mg m0 m1 m2 m3 (nI sz) b)) → (∀ j, j < 11 → hasK b0 (j + 1) = true → cf' (j + 1) = nmb F (szK b0 j + 2) (lenT (j + 1))) → xg A h h' → Q 1 h') (h0 : ¬ (1 ≤ b0 ∧ b0 ≤ 11 ∧ rok F sz b0 0) → ∀ h', RXo E A h' y s n cp → xg A h h' → Q 0 h') : m_X4_read E q (some (y 0 5)) h kc ks Q := by
  obtain ⟨kd, fs, fr, cf, gf, X⟩ := CX.of R
  have nq : q ≠ y 0 5 := hq.neq X.2.1 (by intro z; injection z with z; injection z with z; omega)
  have nb : b ≠ y 0 5 := hb.neq X.2.1 (by intro z; cases z)
  refine gI_of hq rfl ⟨fun z => h0 (fun w => ?_) h R xg.rf, fun z => ?_⟩
  · have e := w.2.2.2
    have : sz = 0 := (nI_eq (b := 0) (by omega) (by omega)).mp z
    have h2 : 1 ≤ szK b0 11 := by
      have := szK_11 b0 (by omega) 0 (by omega)
      exact this
    omega
  have hz : 0 < sz := Nat.pos_of_ne_zero (fun w => z (by rw [w]; rfl))
  refine gR_of hq rfl (nN_of (aI_of hb nI_0.symm (by omega) (by omega) ((hfF 0 hz).trans hF) ⟨fun z => h0 (fun w => ?_) h R xg.rf, fun z => gR_of hq rfl (nN_of (aI_of hb nI_0.symm (by omega) (by omega) ((hfF 0 hz).trans hF) ⟨fun z2 => ?_, fun z2 => h0 (fun w => z2 ((nI_leI (b := 11) (by omega) (by omega)).mpr w.2.1)) h R xg.rf⟩))⟩))
  · have := (nI_ltI (b := 1) (by omega) (by omega)).mp z
    omega
  have c1 : 1 ≤ b0 := Nat.le_of_not_lt (fun w => z ((nI_ltI (b := 1) (by omega) (by omega)).mpr w))
  have c2 : b0 ≤ 11 := (nI_leI (b := 11) (by omega) (by omega)).mp z2
  refine gR_of hq rfl (nN_of (aI_of hb nI_0.symm (by omega) (by omega) ((hfF 0 hz).trans hF) (nN_of (pV_of X.2.1 (by show 0 < 4; decide) ?_))))
  obtain ⟨X1, g1⟩ := X.kw (nI b0) fs fr
  have q1 := hq.ne (e' := .inr (3, [.int (nI b0), .int fs, .int fr, .ref (y 0 7)])) nq
  have b1 := hb.ne (e' := .inr (3, [.int (nI b0), .int fs, .int fr, .ref (y 0 7)])) nb
  refine gI_of q1 rfl (pV_of X1.2.1 (by show 1 < 4; decide) ?_)
  obtain ⟨X2, g2⟩ := X1.kw (nI b0) m0 fr
  have q2 := q1.ne (e' := .inr (3, [.int (nI b0), .int m0, .int fr, .ref (y 0 7)])) nq
  have b2 := b1.ne (e' := .inr (3, [.int (nI b0), .int m0, .int fr, .ref (y 0 7)])) nb
  refine gI_of q2 rfl (pV_of X2.2.1 (by show 2 < 4; decide) ?_)
  obtain ⟨X3, g3⟩ := X2.kw (nI b0) m0 m1
  have q3 := q2.ne (e' := .inr (3, [.int (nI b0), .int m0, .int m1, .ref (y 0 7)])) nq
  have b3 := b2.ne (e' := .inr (3, [.int (nI b0), .int m0, .int m1, .ref (y 0 7)])) nb
  refine ⟨11 + 1, ?_⟩
  exact rdX (F := F) (k := b0) ⟨c1, by omega⟩ hsz hfF 11 0 _ cf (by omega) (by omega) X3 q3 b3 (fun z h' cf' X' q' p1 p2 g' => h1 c1 c2 z h' cf' gf X' q' (fun j a b => p1 j (by omega) a b) (g1.tr (g2.tr (g3.tr g')))) (fun z h' cf' X' g' => h0 (fun w => z w.2.2) h' X'.1 (g1.tr (g2.tr (g3.tr g'))))
theorem nmb_1 {p : Nat} (h1 : okB (F p)) : ∃ q, q < 256 ∧ nmb F p 1 = (nI q).toInt64 := by
  obtain ⟨q, hq, e⟩ := h1
  refine ⟨q, by omega, ?_⟩
  show (0 : Int64) * 256 + (F (p + 0)).toInt64 = _
  rw [Nat.add_zero, e, Int64.zero_mul, Int64.zero_add]
theorem nmb_2 {p : Nat} (h1 : okB (F p)) (h2 : okB (F (p + 1))) : ∃ q, q < 65536 ∧ nmb F p 2 = (nI q).toInt64 := by
  obtain ⟨q, hq, e⟩ := nmb_1 h1
  obtain ⟨q', hq', e'⟩ := h2
  refine ⟨q * 256 + q', by omega, ?_⟩
  show nmb F p 1 * 256 + (F (p + 1)).toInt64 = _
  rw [e, e', nI_l (by omega), nI_l (by omega), nI_l (by omega), show (256 : Int64) = lN 256 from rfl, lN_mul, lN_add]
theorem lenT_12 : ∀ t, t ≤ 11 → 1 ≤ t → lenT t ≤ 2 → lenT t = 1 ∨ lenT t = 2 := by decide +kernel
theorem fdl {b0 : Nat} (hb : b0 < 12) (hF : ∀ a, a < 64 → okB (F a)) (hc : ∀ j, j < 11 → hasK b0 (j + 1) = true → cf (j + 1) = nmb F (szK b0 j + 2) (lenT (j + 1))) (hs : ∀ j, j < 11 → hasK b0 (j + 1) = true → s.2.2.2 17 (j + 1) = nmb F (szK b0 j + 2) (lenT (j + 1))) : FD b0 s cf ∧ ∀ t, 1 ≤ t → t ≤ 11 → hasK b0 t = true → lenT t = 1 → ∃ q, q < 256 ∧ cf t = (nI q).toInt64 := by
  have hz : ∀ j, j < 11 → szK b0 j ≤ 39 := fun j hj => szK_le b0 hb j (by omega)
  refine ⟨fun t h1 h2 h3 => ?_, fun t h1 h2 h3 h4 => ?_⟩
  · obtain ⟨j, rfl⟩ : ∃ j, t = j + 1 := ⟨t - 1, by omega⟩
    have z := hz j (by omega)
    refine ⟨(hs j (by omega) h3).trans (hc j (by omega) h3).symm, fun hl => ?_⟩
    rw [hc j (by omega) h3]
    rcases lenT_12 (j + 1) h2 h1 hl with e | e
    · rw [e]
      obtain ⟨q, hq, e⟩ := nmb_1 (F := F) (p := szK b0 j + 2) (hF _ (by omega))
      exact ⟨q, by omega, e⟩
    · rw [e]
      exact nmb_2 (hF _ (by omega)) (hF _ (by omega))
  · obtain ⟨j, rfl⟩ : ∃ j, t = j + 1 := ⟨t - 1, by omega⟩
    have z := hz j (by omega)
    rw [hc j (by omega) h3, h4]
    exact nmb_1 (hF _ (by omega))
end DELIVER
