/-! a card takes PIN -/
theorem i64_0 : (0 : Int32).toInt64 = 0 := by decide
theorem i64_1 : (1 : Int32).toInt64 = 1 := by decide
theorem i64_2 : (2 : Int32).toInt64 = 2 := by decide
theorem M_typePin_eq (s : MS) {c : Nat} (hc : c < 16) : M_typePin s (nI c) = if s.2.2.1 28 c = 0 then (M_reply (mL (mA s 31 c 2) 18 6 2) 4 (nI c)).bind fun s21 => some s21 else (M_writes s (nI c)).bind fun px2 => if px2.1 = 0 then some px2.2 else if lg_cmp ((mA px2.2 28 c (px2.2.2.2.1 28 c - 1)).2.2.2 17 9) ((mA px2.2 28 c (px2.2.2.2.1 28 c - 1)).2.2.1 22 c).toInt64 = 0 then M_typePin_L75 (mA px2.2 28 c (px2.2.2.2.1 28 c - 1)) (nI c) 1 else M_typePin_L75 (mA px2.2 28 c (px2.2.2.2.1 28 c - 1)) (nI c) 0 := by
  have cc : (nI c).toNatClampNeg = c := nI_clamp (by omega)
  have cb : (nI c < 0 ∨ 16 ≤ c) = False := ixF (by omega) (by omega)
  unfold M_typePin
  dsimp only [lt1]
  simp only [cc, cb, if_false, tC6, tC9, tB6, tB9]
theorem M_pin0_eq (s : MS) {c : Nat} (hc : c < 16) : M_typePin_L75 s (nI c) 0 = (M_reply (mL (mA s 31 c 2) 18 6 0) 4 (nI c)).bind fun s21 => some s21 := by
  have cc : (nI c).toNatClampNeg = c := nI_clamp (by omega)
  have cb : (nI c < 0 ∨ 16 ≤ c) = False := ixF (by omega) (by omega)
  unfold M_typePin_L75 M_typePin_L96 M_typePin_L110 M_typePin_L126
  dsimp only [lt1]
  simp only [cc, cb, if_false, if_true, tC6, tB6]
theorem M_pin1_eq (s : MS) {c : Nat} (hc : c < 16) : M_typePin_L75 s (nI c) 1 = (M_writes s (nI c)).bind fun px25 => if px25.1 = 0 then some px25.2 else (M_reply (mL (mA (mA px25.2 28 c 3) 31 c 1) 18 6 1) 4 (nI c)).bind fun s21 => some s21 := by
  have cc : (nI c).toNatClampNeg = c := nI_clamp (by omega)
  have cb : (nI c < 0 ∨ 16 ≤ c) = False := ixF (by omega) (by omega)
  unfold M_typePin_L75 M_typePin_L96 M_typePin_L110 M_typePin_L126
  dsimp only [lt1]
  simp only [cc, cb, if_false, if_true, tC6, tB6, show ¬ (1 : Int32) = 0 by decide]
section PIN
variable {E : Ev} {A : Nat → Prop} {h : Hp} {y : Nat → Nat → Nat} {s : MS} {n cp n' : Nat → Nat} {kd fs fr : Int32} {cf gf : Nat → Int64} {i u c : Nat} {s' : MS} {r : Int32}
theorem tg4 : ∀ t, t ≤ 11 → hasK 4 t = true → t = 6 := by decide +kernel
theorem s_pinned {wy pd : Int32} {pl : Int64} {kc ks : Nat} {Q : Hp → Prop} (X : CX E A h y s n cp kd fs fr cf gf) (w : W2 i u s n) (hc : c < n 0) (hpd : pd.toInt64 = pl) (hS : SendR (mL (mA s 31 c wy) 18 6 pl) 4 0 (nI c) fs fr ((mL (mA s 31 c wy) 18 6 pl).2.2.2 18) n r s' n') (hk1 : Fc n ≤ kc + Fc n') (hk2 : Fs n cp ≤ ks + Fs n' cp)
    (hQ : ∀ h' y', RXo E A h' y' s' n' cp → y' 0 0 = y 0 0 → xg A h h' → Q h') : m_X1_replyPinned E (y 3 c) (some (y 0 5)) wy pd h kc ks Q := by
  have x := X.card hc
  obtain ⟨a1, a2, a3, a4, a5, a6, a7, a8, ap, aq⟩ := X.asked hc
  have npc : y 4 c ≠ y 3 c := nP_obj x (by decide) _ _ ap
  have yy : up2 y 4 c (y 4 c) 3 c = y 3 c := rfl
  refine pV_of x (by show 10 < 12; decide) ?_
  obtain ⟨X1, g1⟩ := X.cd (s' := mA s 31 c wy) (p := y 4 c) (x22 := s.2.2.1 22 c) (x23 := s.2.2.2 23 c) (x24 := s.2.2.1 24 c) (x27 := s.2.2.1 27 c) (x28 := s.2.2.1 28 c) (x29 := s.2.2.1 29 c) (x30 := s.2.2.1 30 c) (x35 := s.2.2.1 35 c) (x31 := wy) (x32 := s.2.2.2 32 c) (x33 := s.2.2.2 33 c) (x34 := s.2.2.2 34 c) (x25 := s.2.2.2 25 c) (x26 := s.2.2.1 26 c) hc (xg.set rfl) (Or.inl rfl) (by simp [cdv, mA, va_up, upd]) x.set ⟨_, _, _, _, _, _, _, _, ap.ne npc, aq⟩ rfl rfl (fun j hj => by simp [cdv, mA, va_up, upd, hj]) rfl rfl
  have w1 : W2 i u (mA s 31 c wy) n := w.cd hc rfl rfl (fun j hj => by simp [cdv, mA, va_up, upd, hj]) (by simpa [mA, va_up, upd] using w.2.2.2.2.2.2.1 c hc)
  have x1 := X1.card hc
  obtain ⟨b1, b2, b3, go1⟩ := X1.goes
  refine gR_of x1 rfl (nN_of (gR_of X1.world rfl (nN_of (gR_of go1 rfl (nN_of (sL_of X1.2.2.2 (j := 6) rfl (by omega) (by omega) ?_))))))
  obtain ⟨X2, g2⟩ := X1.gs 6 pd.toInt64
  have x2 := X2.card hc
  refine isO_of x2 (cK_of kc ks (Nat.le_refl _) (Nat.le_refl _) ?_)
  have X3 := X2.eqv (s' := mL (mA s 31 c wy) 18 6 pl) rfl
  have w2 := w1.eqv (s1 := mL (mA s 31 c wy) 18 6 pl) rfl
  have := s_reply (k := 4) X3 w2 hc (by omega) (fun t t1 t2 ht => by rw [tg4 t t2 ht]; exact hpd) hS hk1 hk2 (fun h9 y9 R9 hy9 g9 => hQ h9 y9 R9 (hy9 0 0 (by omega) (by omega)) (g1.tr (g2.tr g9))) (Q := Q)
  exact this
/-- the reference's answer PINNED -/
theorem M_pinned {wy : Int32} {pd : Int64} (w : W2 i u s n) (hc : c < n 0) (hn0 : n 0 ≤ 16) (m13 : s.1 13 = fs) (m14 : s.1 14 = fr) {V : MS → Prop} (h : ∀ r s' n', SendR (mL (mA s 31 c wy) 18 6 pd) 4 0 (nI c) fs fr ((mL (mA s 31 c wy) 18 6 pd).2.2.2 18) n r s' n' → V s') : Mv ((M_reply (mL (mA s 31 c wy) 18 6 pd) 4 (nI c)).bind fun s43 => some s43) V := by
  refine Mv.bv (M_reply_spec (s := mL (mA s 31 c wy) 18 6 pd) (n := n) (k := 4) (by omega) w.1.2.2.1.1 w.1.2.2.1.2 (fun r4 s4 n4 hS4 => Mv.r (h r4 s4 n4 ?_)))
  rw [← m13, ← m14]; exact hS4
theorem J_pin (X : CX E A h y s n cp 3 fs fr cf gf) (w : W2 i u s n) (hu : u < 2000) (hc : c < n 0) (m13 : s.1 13 = fs) (m14 : s.1 14 = fr) (hAd : Ad n fs fr) (hf : s.2.2.2 17 9 = cf 9) :
    Mw (M_toCard s (nI c) 3) (JP E A h y n cp i (u + 1) (fun kc ks Q => m_X1_takesPin E (y 3 c) (some (y 0 5)) h kc ks Q)) := by
  have R := X.1
  have hn0 := R.2.1.1.2
  have hn2 := R.2.1.2.2.1
  have cc : (nI c).toNatClampNeg = c := nI_clamp (by omega)
  have cb : (nI c < 0 ∨ 16 ≤ c) = False := ixF (by omega) (by omega)
  have x := X.card hc
  have wu : W2 i (u + 1) s n := w.mono (Nat.le_refl _) (by omega)
  have ac : Ad n 0 (nI c) := Or.inl ⟨rfl, c, hc, rfl⟩
  unfold M_toCard
  refine Mw.no (by decide) ?_
  unfold M_toCard_L126
  refine Mw.y rfl ?_
  simp only [cc, cb, if_false]
  refine Mw.i (fun q => Mw.bv ?_) (fun q => ?_)
  rotate_left
  · unfold M_toCard_L148 M_toCard_L170
    exact Mw.no (by decide) (Mw.no (by decide) (Mw.r (JP.same R wu (fun kc ks Q hQ => gI_of x rfl ⟨fun z => absurd z q, fun _ => hQ⟩))))
  rw [M_typePin_eq s (show c < 16 by omega)]
  refine Mv.i (fun q1 => ?_) (fun q1 => Mv.b ?_)
  · refine M_pinned (wy := 2) (pd := 2) w hc hn0 m13 m14 (fun r4 s4 n4 hS4 => Mw.r ?_)
    obtain ⟨G1, G2, G3, G4⟩ := hS4.F (cp := cp) hn2.2
    have w1 : W2 i (u + 1) (mA s 31 c 2) n := wu.cd hc rfl rfl (fun j hj => by simp [cdv, mA, va_up, upd, hj]) (by simpa [mA, va_up, upd] using w.2.2.2.2.2.2.1 c hc)
    refine ⟨n4, cp, hS4.w (by omega) (w1.eqv rfl) ac hAd, by omega, by omega, fun kc ks k1 k2 Q hQ => ?_⟩
    exact gI_of x rfl ⟨fun _ => gI_of x rfl ⟨fun _ => isO_of x (cK_of (Fc n - Fc n4) (Fs n cp - Fs n4 cp) (by omega) (by omega) (s_pinned X w hc i64_2 hS4 (by omega) (by omega) hQ)), fun z => absurd q1 z⟩, fun z => absurd q z⟩
  obtain ⟨r1, s1, e1, hW⟩ := M_writes_spec (s := s) (c := c) (by omega) (w.2.2.2.2.2.2.1 c hc)
  refine Mw.e e1 ?_
  have w1 := hW.w w hc
  by_cases z : r1 = 0
  · subst z
    refine Mv.y rfl (Mv.r (Mw.r ⟨n, cp, w1.mono (Nat.le_refl _) (by omega), Nat.le_refl _, Nat.le_refl _, fun kc ks k1 k2 Q hQ => ?_⟩))
    refine gI_of x rfl ⟨fun _ => gI_of x rfl ⟨fun z => absurd z q1, fun _ => isO_of x (cK_of 1 8 (by omega) (by omega) (s_lose X hc hW ⟨by omega, by omega⟩ (fun h' p X' gA => ?_)))⟩, fun z => absurd q z⟩
    exact ⟨fun z => absurd z (by decide), fun _ => hQ h' _ X'.1 rfl gA⟩
  have hr : (if r1 = 0 then (1 : Int32) else 0) = 0 := if_neg z
  refine Mv.no z ?_
  have m1 : s1.1 13 = fs ∧ s1.1 14 = fr ∧ s1.2.2.2 17 = s.2.2.2 17 ∧ s1.2.2.1 22 = s.2.2.1 22 := by
    rcases hW with ⟨_, _, rfl⟩ | ⟨_, _, rfl⟩ | ⟨p, _, _, _, rfl⟩ <;> exact ⟨m13, m14, rfl, rfl⟩
  obtain ⟨m13', m14', m17, m22⟩ := m1
  have mp := w1.2.2.2.2.2.2.1 c hc
  have w2 : W2 i u (mA s1 28 c (s1.2.2.1 28 c - 1)) n := w1.cd hc rfl rfl (fun j hj => by simp [cdv, mA, va_up, upd, hj]) (by simpa [mA, va_up, upd] using mp)
  have hcd : cdv (mA s1 28 c (s1.2.2.1 28 c - 1)) c = (s1.2.2.1 22 c, s1.2.2.2 23 c, s1.2.2.1 24 c, s1.2.2.1 27 c, s1.2.2.1 28 c - 1, s1.2.2.1 29 c, s1.2.2.1 30 c, s1.2.2.1 35 c, s1.2.2.1 31 c, s1.2.2.2 32 c, s1.2.2.2 33 c, s1.2.2.2 34 c, s1.2.2.2 25 c, s1.2.2.1 26 c) := by simp [cdv, mA, va_up, upd]
  have hcj : ∀ j, j ≠ c → cdv (mA s1 28 c (s1.2.2.1 28 c - 1)) j = cdv s1 j := fun j hj => by simp [cdv, mA, va_up, upd, hj]
  dsimp only
  have hO2 : visO (mA s1 28 c (s1.2.2.1 28 c - 1)) = visO s1 := rfl
  have hT2 : visT (mA s1 28 c (s1.2.2.1 28 c - 1)) = visT s1 := rfl
  have m2 : (mA s1 28 c (s1.2.2.1 28 c - 1)).1 13 = fs ∧ (mA s1 28 c (s1.2.2.1 28 c - 1)).1 14 = fr ∧ (mA s1 28 c (s1.2.2.1 28 c - 1)).2.2.2 17 = s.2.2.2 17 ∧ (mA s1 28 c (s1.2.2.1 28 c - 1)).2.2.1 22 = s.2.2.1 22 := ⟨m13', m14', m17, m22⟩
  generalize mA s1 28 c (s1.2.2.1 28 c - 1) = s2 at w2 hcd hcj hO2 hT2 m2 ⊢
  obtain ⟨n13, n14, n17, n22⟩ := m2
  -- the class, up to the PIN's comparison
  have pre : ∀ (kc ks : Nat) (Q : Int32 → Hp → Prop), 1 ≤ kc → 8 ≤ ks → (∀ h2 p2, CX E A h2 (up2 y 4 c p2) s2 n cp 3 fs fr cf gf → xg A h h2 → br (lg_cmp (cf 9) (s.2.2.1 22 c).toInt64 = 0) (isO h2 (y 3 c) 2 (cK (kc - 1) (ks - 8) fun mc29 ms30 kc31 ks32 => m_X1_losesPower E (y 3 c) h2 mc29 ms30 (fun x33 h34 => br (x33 = 0) (pV h34 (y 3 c) 2 6 (.int 3) fun h37 => isO h37 (y 3 c) 2 (cK kc31 ks32 fun mc39 ms40 kc41 ks42 => m_X1_replyPinned E (y 3 c) (some (y 0 5)) 1 1 h37 mc39 ms40 (fun h44 => Q 1 h44))) (Q 1 h34)))) (isO h2 (y 3 c) 2 (cK (kc - 1) (ks - 8) fun mc46 ms47 kc48 ks49 => m_X1_replyPinned E (y 3 c) (some (y 0 5)) 2 0 h2 mc46 ms47 (fun h51 => Q 1 h51)))) → m_X1_takesPin E (y 3 c) (some (y 0 5)) h kc ks Q := by
    intro kc ks Q k1 k2 hn
    refine gI_of x rfl ⟨fun _ => gI_of x rfl ⟨fun z => absurd z q1, fun _ => isO_of x (cK_of 1 8 k1 k2 (s_lose X hc hW ⟨by omega, by omega⟩ (fun h1 p1 X1 g1 => ?_)))⟩, fun z => absurd q z⟩
    rw [hr]
    refine ⟨fun _ => ?_, fun z => absurd rfl z⟩
    have x1 := X1.card hc
    obtain ⟨a1, a2, a3, a4, a5, a6, a7, a8, ap, aq⟩ := X1.asked hc
    have npc : up2 y 4 c p1 4 c ≠ y 3 c := nP_obj x1 (by decide) _ _ ap
    refine gI_of x1 rfl (pV_of x1 (by show 6 < 12; decide) ?_)
    obtain ⟨X2, g2⟩ := X1.cd (s' := s2) (p := up2 y 4 c p1 4 c) hc (xg.set (S := fun a => a = y 3 c) rfl) (Or.inl rfl) hcd x1.set ⟨_, _, _, _, _, _, _, _, ap.ne npc, aq⟩ hO2 hT2 hcj rfl rfl
    have x2 := X2.card hc
    refine nN_of (gR_of X2.2.1 rfl (nN_of (aL_of X2.2.2.1 (j := 9) rfl (by omega) (by omega) rfl (gI_of x2 rfl ?_))))
    rw [n22]
    rw [up2_up2] at X2
    exact hn _ _ X2 (g1.tr g2)
  rw [show s2.2.2.2 17 9 = cf 9 by rw [n17]; exact hf, n22]
  refine Mv.i (fun q2 => ?_) (fun q2 => ?_)
  · rw [M_pin1_eq s2 (show c < 16 by omega)]
    refine Mv.b ?_
    obtain ⟨r3, s3, e3, hW3⟩ := M_writes_spec (s := s2) (c := c) (by omega) (w2.2.2.2.2.2.2.1 c hc)
    refine Mw.e e3 ?_
    have w3 := hW3.w w2 hc
    by_cases z3 : r3 = 0
    · subst z3
      refine Mv.y rfl (Mv.r (Mw.r ⟨n, cp, w3.mono (Nat.le_refl _) (by omega), Nat.le_refl _, Nat.le_refl _, fun kc ks k1 k2 Q hQ => ?_⟩))
      refine pre kc ks Q (by omega) (by omega) (fun h2 p2 X2 g2 => ⟨fun _ => ?_, fun z => absurd q2 z⟩)
      have x2 := X2.card hc
      refine isO_of x2 (cK_of 1 8 (by omega) (by omega) (s_lose (y := up2 y 4 c p2) X2 hc hW3 ⟨by omega, by omega⟩ (fun h' p X' gA => ?_)))
      exact ⟨fun z => absurd z (by decide), fun _ => hQ h' _ X'.1 rfl (g2.tr gA)⟩
    have hr3 : (if r3 = 0 then (1 : Int32) else 0) = 0 := if_neg z3
    refine Mv.no z3 ?_
    have m3 : s3.1 13 = fs ∧ s3.1 14 = fr := by
      rcases hW3 with ⟨_, _, rfl⟩ | ⟨_, _, rfl⟩ | ⟨p, _, _, _, rfl⟩ <;> exact ⟨n13, n14⟩
    have w4 : W2 i u (mA s3 28 c 3) n := w3.cd hc rfl rfl (fun j hj => by simp [cdv, mA, va_up, upd, hj]) (by simpa [mA, va_up, upd] using w3.2.2.2.2.2.2.1 c hc)
    dsimp only
    refine M_pinned (s := mA s3 28 c 3) (wy := 1) (pd := 1) w4 hc hn0 m3.1 m3.2 (fun r4 s4 n4 hS4 => Mw.r ?_)
    obtain ⟨G1, G2, G3, G4⟩ := hS4.F (cp := cp) hn2.2
    have w5 : W2 i (u + 1) (mA (mA s3 28 c 3) 31 c 1) n := (w4.mono (Nat.le_refl _) (by omega)).cd hc rfl rfl (fun j hj => by simp [cdv, mA, va_up, upd, hj]) (by simpa [mA, va_up, upd] using w4.2.2.2.2.2.2.1 c hc)
    refine ⟨n4, cp, hS4.w (by omega) (w5.eqv rfl) ac hAd, by omega, by omega, fun kc ks k1 k2 Q hQ => ?_⟩
    refine pre kc ks Q (by omega) (by omega) (fun h2 p2 X2 g2 => ⟨fun _ => ?_, fun z => absurd q2 z⟩)
    have x2 := X2.card hc
    refine isO_of x2 (cK_of 1 8 (by omega) (by omega) (s_lose (y := up2 y 4 c p2) X2 hc hW3 ⟨by omega, by omega⟩ (fun h3 p3 X3 g3 => ?_)))
    rw [hr3]
    refine ⟨fun _ => ?_, fun z => absurd rfl z⟩
    have x3 := X3.card hc
    obtain ⟨a1, a2, a3, a4, a5, a6, a7, a8, ap, aq⟩ := X3.asked hc
    have npc : up2 (up2 y 4 c p2) 4 c p3 4 c ≠ y 3 c := nP_obj x3 (by decide) _ _ ap
    refine pV_of x3 (by show 6 < 12; decide) ?_
    obtain ⟨X4, g4⟩ := X3.cd (s' := mA s3 28 c 3) (p := up2 (up2 y 4 c p2) 4 c p3 4 c) (x22 := s3.2.2.1 22 c) (x23 := s3.2.2.2 23 c) (x24 := s3.2.2.1 24 c) (x27 := s3.2.2.1 27 c) (x28 := 3) (x29 := s3.2.2.1 29 c) (x30 := s3.2.2.1 30 c) (x35 := s3.2.2.1 35 c) (x31 := s3.2.2.1 31 c) (x32 := s3.2.2.2 32 c) (x33 := s3.2.2.2 33 c) (x34 := s3.2.2.2 34 c) (x25 := s3.2.2.2 25 c) (x26 := s3.2.2.1 26 c) hc (xg.set (S := fun a => a = y 3 c) rfl) (Or.inl rfl) (by simp [cdv, mA, va_up, upd]) x3.set ⟨_, _, _, _, _, _, _, _, ap.ne npc, aq⟩ rfl rfl (fun j hj => by simp [cdv, mA, va_up, upd, hj]) rfl rfl
    have x4 := X4.card hc
    refine isO_of x4 (cK_of (Fc n - Fc n4) (Fs n cp - Fs n4 cp) (by omega) (by omega) ?_)
    have := s_pinned (kc := Fc n - Fc n4) (ks := Fs n cp - Fs n4 cp) (wy := 1) (pd := 1) X4 w4 hc i64_1 hS4 (by omega) (by omega) (fun h9 y9 R9 hy9 g9 => hQ h9 y9 R9 hy9 (g2.tr (g3.tr (g4.tr g9)))) (Q := fun h => Q 1 h)
    exact this
  · rw [M_pin0_eq s2 (show c < 16 by omega)]
    refine M_pinned (s := s2) (wy := 2) (pd := 0) w2 hc hn0 n13 n14 (fun r4 s4 n4 hS4 => Mw.r ?_)
    obtain ⟨G1, G2, G3, G4⟩ := hS4.F (cp := cp) hn2.2
    have w5 : W2 i (u + 1) (mA s2 31 c 2) n := (w2.mono (Nat.le_refl _) (by omega)).cd hc rfl rfl (fun j hj => by simp [cdv, mA, va_up, upd, hj]) (by simpa [mA, va_up, upd] using w2.2.2.2.2.2.2.1 c hc)
    refine ⟨n4, cp, hS4.w (by omega) (w5.eqv rfl) ac hAd, by omega, by omega, fun kc ks k1 k2 Q hQ => ?_⟩
    refine pre kc ks Q (by omega) (by omega) (fun h2 p2 X2 g2 => ⟨fun z => absurd z q2, fun _ => ?_⟩)
    have x2 := X2.card hc
    refine isO_of x2 (cK_of (Fc n - Fc n4) (Fs n cp - Fs n4 cp) (by omega) (by omega) ?_)
    have := s_pinned (kc := Fc n - Fc n4) (ks := Fs n cp - Fs n4 cp) (Q := fun h => Q 1 h) (wy := 2) (pd := 0) X2 w2 hc i64_0 hS4 (by omega) (by omega) (fun h9 y9 R9 hy9 g9 => hQ h9 y9 R9 hy9 (g2.tr g9))
    exact this
end PIN
