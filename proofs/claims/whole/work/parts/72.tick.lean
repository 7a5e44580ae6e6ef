/-! tick -/
def wi (a lo hi : Int64) : Prop := ¬ lg_cmp a lo < 0 ∧ ¬ 0 < lg_cmp a hi
def tk (s : MS) (D : Int64) (t : Nat) : MS := (s.1, s.2.1, s.2.2.1, va_up s.2.2.2 42 (fun j => if t ≤ j then s.2.2.2 42 j + D else s.2.2.2 42 j))
section TICK
variable {E : Ev} {A S : Nat → Prop} {h h' : Hp} {y y' : Nat → Nat → Nat} {s s' : MS} {n cp n' cp' : Nat → Nat} {i u k m kc ks t : Nat} {r : Int32}
theorem M_isIn_eq (s : MS) (a lo hi : Int64) : (wi a lo hi → M_isIn s a lo hi = some (1, s)) ∧ (¬ wi a lo hi → M_isIn s a lo hi = some (0, s)) := by
  unfold M_isIn wi
  by_cases h1 : lg_cmp a lo < 0
  · rw [if_pos h1]
    exact ⟨fun z => absurd h1 z.1, fun _ => rfl⟩
  · rw [if_neg h1]
    by_cases h2 : 0 < lg_cmp a hi
    · rw [if_pos h2]
      exact ⟨fun z => absurd h2 z.2, fun _ => rfl⟩
    · rw [if_neg h2]
      exact ⟨fun _ => rfl, fun z => absurd ⟨h1, h2⟩ z⟩
theorem s_wi {a lo hi : Int64} {Q : Int32 → Hp → Prop} (h1 : wi a lo hi → Q 1 h) (h0 : ¬ wi a lo hi → Q 0 h) : m_X11_isWithin E a lo hi h kc ks Q :=
  ⟨fun z => h0 (fun w => w.1 z), fun z => ⟨fun z2 => h0 (fun w => w.2 z2), fun z2 => h1 ⟨z, z2⟩⟩⟩
theorem wi_n {z : Int32} {lo hi : Nat} (hl : lo < 2 ^ 31) (hh : hi < 2 ^ 31) (w : wi z.toInt64 (nI lo).toInt64 (nI hi).toInt64) : ∃ q, lo ≤ q ∧ q ≤ hi ∧ z = nI q := by
  obtain ⟨w1, w2⟩ := w
  have a1 : (nI lo).toInt64 ≤ z.toInt64 := Int64.not_lt.mp (fun q => w1 ((lg_cmp_lt _ _).mpr q))
  have a2 : z.toInt64 ≤ (nI hi).toInt64 := Int64.not_lt.mp (fun q => w2 ((lg_cmp_gt _ _).mpr q))
  rw [t64_le] at a1 a2
  obtain ⟨q, hq, rfl⟩ := nI_of (x := z) (fun w => absurd (Int32.lt_of_le_of_lt a1 w) (nI_pos hl))
  exact ⟨q, (nI_leI hl (by omega)).mp a1, (nI_leI (by omega) hh).mp a2, rfl⟩
theorem RXo.ts (R : RXo E A h y s n cp) (hO : visO s' = visO s) (hC : visC s' = visC s) (hA : s'.2.2.1 = s.2.2.1) (hL : ∀ k, k ≠ 42 → s'.2.2.2 k = s.2.2.2 k) (h42 : ∀ j, j < n 1 → ¬ s.2.2.1 41 j = 0 → s'.2.1 - s'.2.2.2 42 j = s.2.1 - s.2.2.2 42 j) : RXo E A h y s' n cp := by
  obtain ⟨Ra, Rn, Rf, Rl, Rm, Rc, Rt, Rs, Rp⟩ := R
  refine ⟨Ra, Rn.o hO, Rf.o hO, Rl.o hO, Rm.o hO, Rc.o hC, fun j hj => ?_, Rs.o hO, Rp.o hO⟩
  obtain ⟨wd, x, x1, x2⟩ := Rt j hj
  refine ⟨wd, ?_, fun q => ?_, ?_⟩
  · rw [hA, hL 37 (by omega), hL 38 (by omega), hL 39 (by omega)]; exact x
  · rw [hA] at q
    rw [h42 j hj q]; exact x1 q
  · rw [hA, hL 44 (by omega), hL 45 (by omega)]; exact x2
theorem tk_42 (s : MS) (D : Int64) (t j : Nat) : (tk s D t).2.2.2 42 j = if t ≤ j then s.2.2.2 42 j + D else s.2.2.2 42 j := by
  show va_up s.2.2.2 42 (fun j => if t ≤ j then s.2.2.2 42 j + D else s.2.2.2 42 j) 42 j = _
  rw [va_up_self]
theorem tk_o (s : MS) (D : Int64) (t : Nat) {k : Nat} (hk : k ≠ 42) : (tk s D t).2.2.2 k = s.2.2.2 k := va_up_ne _ _ hk
theorem tk_tmv (s : MS) (D : Int64) {t j : Nat} (hj : j ≠ t) : tmv (tk s D (t + 1)) j = tmv (tk s D t) j := by
  unfold tmv
  simp only [tk_42, tk_o s D t (show 37 ≠ 42 by omega), tk_o s D t (show 38 ≠ 42 by omega), tk_o s D t (show 39 ≠ 42 by omega), tk_o s D t (show 44 ≠ 42 by omega), tk_o s D t (show 45 ≠ 42 by omega), tk_o s D (t + 1) (show 37 ≠ 42 by omega), tk_o s D (t + 1) (show 38 ≠ 42 by omega), tk_o s D (t + 1) (show 39 ≠ 42 by omega), tk_o s D (t + 1) (show 44 ≠ 42 by omega), tk_o s D (t + 1) (show 45 ≠ 42 by omega)]
  by_cases z : t ≤ j
  · rw [if_pos z, if_pos (by omega)]; rfl
  · rw [if_neg z, if_neg (by omega)]; rfl
theorem J_tick {zn : Nat} (hz1 : 1 ≤ zn) (hz2 : zn ≤ 100) (Rn1 : s.1 36 = nI (n 1)) (hn1 : n 1 ≤ 8) : ∀ d t cnt m s, n 1 - t = d → t ≤ n 1 → d < m → s.1 36 = nI (n 1) → W2 i u s n → Mw (M_tick_L29 m s (nI cnt) (nI t)) (fun r s' => W2 i u s' n ∧ ∀ h y, RXo E A h y (tk s (nI zn).toInt64 t) n cp → ∀ (kc ks : Nat) (Q : Int32 → Hp → Prop), (∀ h', RXo E A h' y s' n cp → xg A h h' → Q r h') → m_X11_tick_L18 (d + 1) E (y 0 0) (nI zn) (nI cnt) (nI t) h kc ks Q) := by
  intro d
  induction d with
  | zero =>
    intro t cnt m s hd ht hm h36 w
    obtain ⟨m, rfl⟩ : ∃ m', m = m' + 1 := ⟨m - 1, by omega⟩
    have : t = n 1 := by omega
    subst this
    rw [M_tick_L29, if_pos (by rw [h36]; exact Int32.le_refl _)]
    refine Mw.r ⟨w, fun h y R kc ks Q hQ => ?_⟩
    have R' : RXo E A h y s n cp := R.ts rfl rfl rfl (fun k hk => (tk_o _ _ _ hk).symm) (fun j hj _ => by rw [tk_42, if_neg (by omega)]; rfl)
    obtain ⟨f0, f1, -⟩ := id R.2.2.1
    have l1 := R.2.2.2.1.2.1
    exact gR_of f0 rfl (nN_of (gR_of f1 rfl (nN_of (l1.isO (s_size l1 ⟨fun _ => hQ h R' xg.rf, fun z => absurd (Int32.le_refl _) z⟩)))))
  | succ d ih =>
    intro t cnt m s hd ht hm h36 w
    obtain ⟨m, rfl⟩ : ∃ m', m = m' + 1 := ⟨m - 1, by omega⟩
    have ht' : t < n 1 := by omega
    have cc : (nI t).toNatClampNeg = t := nI_clamp (by omega)
    rw [M_tick_L29, if_neg (by rw [h36]; exact nI_ge (by omega) (by omega)), if_neg (nI_in (by omega) (by omega)), cc]
    unfold M_tick_L73
    have pre : ∀ (h : Hp) (y : Nat → Nat → Nat), RXo E A h y (tk s (nI zn).toInt64 t) n cp → ∀ (kc ks : Nat) (Q : Int32 → Hp → Prop), m_X8_givesUpAfter E (y 5 t) (nI zn) h 0 0 (fun x28 h29 => br (x28 = 0) (m_X11_tick_L18 (d + 1) E (y 0 0) (nI zn) (nI cnt) (nI (t + 1)) h29 kc ks Q) (m_X11_tick_L18 (d + 1) E (y 0 0) (nI zn) (nI (cnt + 1)) (nI (t + 1)) h29 kc ks Q)) → m_X11_tick_L18 (d + 1 + 1) E (y 0 0) (nI zn) (nI cnt) (nI t) h kc ks Q := by
      intro h y R kc ks Q hm
      obtain ⟨f0, f1, -⟩ := id R.2.2.1
      have l1 := R.2.2.2.1.2.1
      obtain ⟨wd, x, -⟩ := R.term ht'
      refine gR_of f0 rfl (nN_of (gR_of f1 rfl (nN_of (l1.isO (s_size l1 ⟨fun z => absurd z (nI_ge ht' (by omega)), fun _ => gR_of f0 rfl (nN_of (gR_of f1 rfl (nN_of (l1.isO (s_get l1 (by omega) ht' (nN_of (isO_of x (isO_of x ?_))))))))⟩)))))
      unfold m_X11_tick_L56
      rw [nI_1, nI_1]
      exact hm
    refine Mw.i (fun q => ?_) (fun q => Mw.n (by have := nI_in (c := t) (N := 8) (by omega) (by omega); rw [cc] at this; exact this) ?_)
    · rw [nI_1]
      refine (ih (t + 1) cnt m s (by omega) (by omega) (by omega) h36 w).m (fun r s' hq => ⟨hq.1, fun h y R kc ks Q hQ => pre h y R kc ks Q ?_⟩)
      obtain ⟨wd, x, -⟩ := R.term ht'
      have R' : RXo E A h y (tk s (nI zn).toInt64 (t + 1)) n cp := by
        refine R.ts rfl rfl rfl (fun k hk => by rw [tk_o _ _ _ hk, tk_o _ _ _ hk]) (fun j hj hw => ?_)
        rw [tk_42, tk_42]
        by_cases zj : t ≤ j
        · by_cases zt : j = t
          · subst zt; exact absurd q hw
          · rw [if_pos zj, if_pos (by omega)]; rfl
        · rw [if_neg zj, if_neg (by omega)]; rfl
      exact gI_of x rfl ⟨fun _ => ⟨fun _ => hq.2 h y R' kc ks Q hQ, fun z => absurd rfl z⟩, fun z => absurd q z⟩
    have numb : ∀ (h : Hp) (y : Nat → Nat → Nat) (wd : Int32), tmP h (y 6 t) t s.2.1 (s.2.2.1 41 t) (s.2.2.2 42 t + (nI zn).toInt64) (s.2.2.2 44 t) (s.2.2.2 45 t) (s.2.2.1 47 t) (s.2.2.1 49 t) (s.2.2.1 50 t) wd → ∃ w0, w0 ≤ 20 ∧ wd = nI w0 ∧ s.2.1 - s.2.2.2 42 t = (nI (w0 + zn)).toInt64 := by
      intro h y wd xp
      obtain ⟨x1, x2, x3⟩ := xp.1 q
      obtain ⟨w0, hw, rfl⟩ := nI_of2 (x := wd) (M := 20) (n := 20) (by decide) (fun z => Int32.not_lt.mpr x2 z) x3
      refine ⟨w0, hw, rfl, ?_⟩
      have e1 : (nI (w0 + zn)).toInt64 = (nI w0).toInt64 + (nI zn).toInt64 := by rw [nI_l (by omega), nI_l (by omega), nI_l (by omega), lN_add]
      rw [e1, x1]
      rw [Int64.sub_eq_add_neg, Int64.sub_eq_add_neg, Int64.neg_add, Int64.sub_eq_add_neg, Int64.add_assoc, Int64.add_assoc, Int64.add_left_neg, Int64.add_zero]
    have tmk : ∀ (h : Hp) (y : Nat → Nat → Nat), RXo E A h y (tk s (nI zn).toInt64 t) n cp → ∃ wd, xh_at h (y 5 t) (.inr (9, termL y t (y 6 t) (s.2.2.2 37 t) (s.2.2.2 38 t) (s.2.2.1 40 t) (s.2.2.2 39 t) (s.2.2.1 43 t) (s.2.2.1 46 t) (s.2.2.1 48 t) (s.2.2.1 51 t) (s.2.2.1 41 t) wd)) ∧ tmP h (y 6 t) t s.2.1 (s.2.2.1 41 t) (s.2.2.2 42 t + (nI zn).toInt64) (s.2.2.2 44 t) (s.2.2.2 45 t) (s.2.2.1 47 t) (s.2.2.1 49 t) (s.2.2.1 50 t) wd := by
      intro h y R
      obtain ⟨wd, x, xp⟩ := R.term ht'
      rw [tk_42, if_pos (Nat.le_refl _), tk_o _ _ _ (by omega), tk_o _ _ _ (by omega)] at xp
      rw [tk_o _ _ _ (by omega), tk_o _ _ _ (by omega), tk_o _ _ _ (by omega)] at x
      exact ⟨wd, x, xp⟩
    have l20 : ∀ w0, w0 ≤ 20 → (lg_cmp (nI (w0 + zn)).toInt64 20 ≤ 0 ↔ w0 + zn ≤ 20) := fun w0 hw => lg_le_n (b := 20) (by omega) (by omega)
    refine Mw.i (fun q2 => ?_) (fun q2 => Mw.bv ?_)
    · rw [nI_1]
      refine (ih (t + 1) cnt m s (by omega) (by omega) (by omega) h36 w).m (fun r s' hq => ⟨hq.1, fun h y R kc ks Q hQ => pre h y R kc ks Q ?_⟩)
      obtain ⟨wd, x, xp⟩ := tmk h y R
      obtain ⟨w0, hw0, rfl, ew⟩ := numb h y wd xp
      have hle : w0 + zn ≤ 20 := (l20 w0 hw0).mp (by rw [← ew]; exact q2)
      obtain ⟨xp1, c1, k1, am1, un1, tt1, w1, a1, sl1, e1, e2⟩ := xp
      have n6 : y 6 t ≠ y 5 t := nP_obj x (by decide) _ _ e1
      have hd := R.dj ht' q
      refine gI_of x rfl ⟨fun z => absurd z q, fun _ => gI_of x rfl (pV_of x (by show 13 < 14; decide) (gI_of x.set rfl ?_))⟩
      rw [nI_add]
      refine ⟨fun z => absurd z (nI_nlt (a := 20) hle (by omega)), fun _ => ⟨fun _ => ?_, fun z => absurd rfl z⟩⟩
      obtain ⟨R', g'⟩ := R.tm (S := fun a => a = y 5 t) (s' := tk s (nI zn).toInt64 (t + 1)) (p := y 6 t) (x37 := s.2.2.2 37 t) (x38 := s.2.2.2 38 t) (x40 := s.2.2.1 40 t) (x39 := s.2.2.2 39 t) (x43 := s.2.2.1 43 t) (x46 := s.2.2.1 46 t) (x48 := s.2.2.1 48 t) (x51 := s.2.2.1 51 t) (x41 := s.2.2.1 41 t) (x42 := s.2.2.2 42 t) (x44 := s.2.2.2 44 t) (x45 := s.2.2.2 45 t) (x47 := s.2.2.1 47 t) (x49 := s.2.2.1 49 t) (x50 := s.2.2.1 50 t) (wd := nI (w0 + zn)) ht' (xg.set (S := fun a => a = y 5 t) rfl) (fun a z => Or.inl z) (fun z => absurd z n6) (Or.inl ⟨rfl, Or.inl hd⟩) (by
        unfold tmv
        rw [tk_42, if_neg (by omega), tk_o _ _ _ (by omega), tk_o _ _ _ (by omega), tk_o _ _ _ (by omega), tk_o _ _ _ (by omega), tk_o _ _ _ (by omega)]
        rfl) (xh_at.set x) ⟨fun _ => ⟨ew.symm, Int32.not_lt.mp (nI_pos (by omega)), nI_le (b := 20) hle (by omega)⟩, c1, k1, am1, un1, tt1, w1, a1, sl1, e1.ne n6, e2⟩ rfl rfl (fun j hj => tk_tmv s _ hj) rfl
      rw [up2_id] at R'
      have := hq.2 _ y R' kc ks Q (fun h' R'' g'' => hQ h' R'' (g'.tr g''))
      exact this
    · rw [M_end_eq s (t := t) (by omega) 4]
      refine Mv.r ?_
      rw [nI_1, nI_1]
      have wE := w.tend (t := t) ht' 4
      refine (ih (t + 1) (cnt + 1) m (mA (mA s 40 t 4) 41 t 0) (by omega) (by omega) (by omega) h36 wE).m (fun r s' hq => ⟨hq.1, fun h y R kc ks Q hQ => pre h y R kc ks Q ?_⟩)
      obtain ⟨wd, x, xp⟩ := tmk h y R
      obtain ⟨w0, hw0, rfl, ew⟩ := numb h y wd xp
      have hle : ¬ w0 + zn ≤ 20 := fun z => q2 (by rw [ew]; exact (l20 w0 hw0).mpr z)
      obtain ⟨xp1, c1, k1, am1, un1, tt1, w1, a1, sl1, e1, e2⟩ := xp
      have n6 : y 6 t ≠ y 5 t := nP_obj x (by decide) _ _ e1
      refine gI_of x rfl ⟨fun z => absurd z q, fun _ => gI_of x rfl (pV_of x (by show 13 < 14; decide) (gI_of x.set rfl ?_))⟩
      rw [nI_add]
      refine ⟨fun _ => ?_, fun z => absurd ((nI_ltI (a := 20) (by omega) (by omega)).mpr (by omega)) z⟩
      have x1 := x.set (e' := .inr (9, termL y t (y 6 t) (s.2.2.2 37 t) (s.2.2.2 38 t) (s.2.2.1 40 t) (s.2.2.2 39 t) (s.2.2.1 43 t) (s.2.2.1 46 t) (s.2.2.1 48 t) (s.2.2.1 51 t) (s.2.2.1 41 t) (nI (w0 + zn))))
      refine isO_of x1 (pV_of x1 (by show 5 < 14; decide) (pV_of x1.set (by show 12 < 14; decide) ⟨fun z => absurd z (by decide), fun _ => ?_⟩))
      obtain ⟨R', g'⟩ := R.tm (S := fun a => a = y 5 t) (s' := tk (mA (mA s 40 t 4) 41 t 0) (nI zn).toInt64 (t + 1)) (p := y 6 t) (x37 := s.2.2.2 37 t) (x38 := s.2.2.2 38 t) (x40 := 4) (x39 := s.2.2.2 39 t) (x43 := s.2.2.1 43 t) (x46 := s.2.2.1 46 t) (x48 := s.2.2.1 48 t) (x51 := s.2.2.1 51 t) (x41 := 0) (x42 := s.2.2.2 42 t) (x44 := s.2.2.2 44 t) (x45 := s.2.2.2 45 t) (x47 := s.2.2.1 47 t) (x49 := s.2.2.1 49 t) (x50 := s.2.2.1 50 t) (wd := nI (w0 + zn)) ht' (((xg.set (S := fun a => a = y 5 t) rfl).tr (xg.set (S := fun a => a = y 5 t) rfl)).tr (xg.set (S := fun a => a = y 5 t) rfl)) (fun a z => Or.inl z) (fun z => absurd z n6) (Or.inl ⟨rfl, Or.inr rfl⟩) (by
        unfold tmv
        rw [tk_42, if_neg (by omega), tk_o _ _ _ (by omega), tk_o _ _ _ (by omega), tk_o _ _ _ (by omega), tk_o _ _ _ (by omega), tk_o _ _ _ (by omega)]
        simp [tk, mA, va_up, upd]) (xh_at.set (xh_at.set x1)) ⟨fun z => absurd rfl z, c1, k1, am1, un1, tt1, w1, a1, sl1, ((e1.ne n6).ne n6).ne n6, fun z => absurd rfl z, fun z => absurd z (by decide), fun z => absurd z (by decide), fun z => absurd z (by decide)⟩ rfl rfl (fun j hj => by
          rw [tk_tmv _ _ hj]
          unfold tmv
          rw [tk_42, tk_42]
          simp [tk, mA, va_up, upd, hj]) rfl
      rw [up2_id] at R'
      exact hq.2 _ y R' kc ks Q (fun h' R'' g'' => hQ h' R'' (g'.tr g''))
theorem i64_ss (a b D : Int64) : a + D - (b + D) = a - b := by
  rw [Int64.sub_eq_add_neg, Int64.neg_add, Int64.sub_eq_add_neg (-b), Int64.add_comm (-b), Int64.add_assoc, ← Int64.add_assoc D, Int64.add_right_neg, Int64.zero_add, ← Int64.sub_eq_add_neg]
theorem SJ_tick_ok : SJ_tick RX WF := by
  intro E A h x s i kc ks z hR hW hi
  obtain ⟨y, n, cp, rfl, R, hb⟩ := id hR
  have w := hW.w hi R
  have hn1 := R.2.1.2.1
  have wn := w.mono (i' := i + 1) (u' := 2 * i + 2) (by omega) (by omega)
  obtain ⟨b1, b0⟩ := M_isIn_eq s z.toInt64 1 100
  by_cases q : wi z.toInt64 1 100
  rotate_left
  · refine ⟨-1, s, ?_, ?_⟩
    · unfold M_tick
      generalize mfu = fu
      rw [b0 q, Option.bind_some, lt1_e, lt1_e, if_pos rfl]
    · exact JZ.sj hb wn (Nat.le_refl _) rfl rfl (fun Q hQ => s_wi (fun a => absurd a q) (fun _ => ⟨fun _ => hQ h y R rfl xg.rf, fun z => absurd rfl z⟩))
  obtain ⟨zn, hz1, hz2, rfl⟩ := wi_n (z := z) (lo := 1) (hi := 100) (by omega) (by omega) (show wi z.toInt64 (nI 1).toInt64 (nI 100).toInt64 from (by rw [nI_l (n := 1) (by omega), nI_l (n := 100) (by omega)]; exact q))
  have wT : W2 (i + 1) (2 * i + 2) (mT s (s.2.1 + (nI zn).toInt64)) n := wn
  have RT : RXo E A h y (tk (mT s (s.2.1 + (nI zn).toInt64)) (nI zn).toInt64 0) n cp := by
    refine R.ts rfl rfl rfl (fun k hk => tk_o _ _ _ hk) (fun j hj _ => ?_)
    rw [tk_42, if_pos (by omega)]
    show s.2.1 + (nI zn).toInt64 - (s.2.2.2 42 j + (nI zn).toInt64) = _
    exact i64_ss _ _ _
  obtain ⟨r, s', e, w', hc⟩ := J_tick (E := E) (A := A) (cp := cp) hz1 hz2 hn1.1 hn1.2 (n 1) 0 0 mfu (mT s (s.2.1 + (nI zn).toInt64)) (by omega) (by omega) (by unfold mfu; omega) hn1.1 wT
  refine ⟨r, s', ?_, ?_⟩
  · rw [← e]
    unfold M_tick
    generalize mfu = fu
    rw [b1 q, Option.bind_some, lt1_e, lt1_e, if_neg (show ¬ (1 : Int32) = 0 by decide), lt1_e]
    rfl
  · exact JZ.sj hb w' (Nat.le_refl _) rfl rfl (fun Q hQ => s_wi (fun _ => ⟨fun z => absurd z (by decide), fun _ => ⟨n 1 + 1, hc h y RT 0 0 Q (fun h' R' g' => hQ h' y R' rfl g')⟩⟩) (fun a => absurd q a))
end TICK
