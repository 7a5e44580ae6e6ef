/-! a terminal with what came and what goes -/
section TX
variable {E : Ev} {A S : Nat → Prop} {h h' : Hp} {y y' : Nat → Nat → Nat} {s s' : MS} {n cp n' cp' : Nat → Nat} {kd fs fr : Int32} {cf gf v : Nat → Int64} {i u t : Nat} {r : Int32}
theorem RXo.term (R : RXo E A h y s n cp) (ht : t < n 1) : ∃ wd, xh_at h (y 5 t) (.inr (9, termL y t (y 6 t) (s.2.2.2 37 t) (s.2.2.2 38 t) (s.2.2.1 40 t) (s.2.2.2 39 t) (s.2.2.1 43 t) (s.2.2.1 46 t) (s.2.2.1 48 t) (s.2.2.1 51 t) (s.2.2.1 41 t) wd)) ∧ tmP h (y 6 t) t s.2.1 (s.2.2.1 41 t) (s.2.2.2 42 t) (s.2.2.2 44 t) (s.2.2.2 45 t) (s.2.2.1 47 t) (s.2.2.1 49 t) (s.2.2.1 50 t) wd := R.2.2.2.2.2.2.1 t ht
theorem tm_no (R : RXo E A h y s n cp) (ht : t < n 1) (hS : ∀ a, S a → a = y 5 t ∨ (a = y 6 t ∧ DJ y n s t (y 6 t))) {k j : Nat} (hl : lyv n cp k j) (hn : k ≠ 5 ∨ j ≠ t) : ¬ S (y k j) := by
  obtain ⟨wd0, t1, t2, c0, k0, am0, un0, tt0, w0, a0, sl0, e0, e0'⟩ := R.term ht
  intro z
  rcases hS _ z with e | ⟨e, _⟩
  · exact R.1.ne hl (ly5 ht) hn e
  · obtain ⟨v, v1, v2⟩ := R.ly hl
    rw [e] at v1
    exact v2 _ (v1.2.symm.trans e0.2)
theorem CX.tm {p : Nat} {x37 x38 : Int64} {x40 : Int32} {x39 : Int64} {x43 x46 x48 x51 x41 : Int32} {x42 x44 x45 : Int64} {x47 x49 x50 wd : Int32} (X : CX E A h y s n cp kd fs fr cf gf) (ht : t < n 1) (g : xg S h h') (hS : ∀ a, S a → a = y 5 t ∨ (a = y 6 t ∧ DJ y n s t (y 6 t))) (hK : S (y 6 t) → ∀ c k am un tt w a sl, PAY h (y 6 t) c k am un tt w a sl → ∃ c' k' w' a' sl', PAY h' (y 6 t) c' k' am un tt w' a' sl')
    (hp : (p = y 6 t ∧ (DJ y n s t (y 6 t) ∨ x41 = 0)) ∨ p ∉ h.1) (hv : tmv s' t = (x37, x38, x40, x39, x43, x46, x48, x51, x41, x42, x44, x45, x47, x49, x50)) (hx : xh_at h' (y 5 t) (.inr (9, termL y t p x37 x38 x40 x39 x43 x46 x48 x51 x41 wd))) (hP : tmP h' p t s.2.1 x41 x42 x44 x45 x47 x49 x50 wd)
    (hO : visP s' = visP s) (hC : visC s' = visC s) (hT : ∀ j, j ≠ t → tmv s' j = tmv s j) (h0 : s'.2.1 = s.2.1) : CX E A h' (up2 y 6 t p) s' n cp kd fs fr cf gf ∧ xg A h h' := by
  obtain ⟨R', gA⟩ := X.1.tm ht g hS hK hp hv hx hP hO hC hT h0
  exact ⟨X.nx R' g (tm_no X.1 ht hS (lyc (by omega)) (by omega)) (tm_no X.1 ht hS (lyc (by omega)) (by omega)) (tm_no X.1 ht hS (lyc (by omega)) (by omega)) (fun j => rfl), gA⟩
/-- the reference alone -/
theorem M_end_eq (s : MS) {t : Nat} (ht : t < 8) (o : Int32) : M_end s (nI t) o = some (mA (mA s 40 t o) 41 t 0) := by
  have cc : (nI t).toNatClampNeg = t := nI_clamp (by omega)
  have cb : (nI t < 0 ∨ 8 ≤ t) = False := ixF (by omega) (by omega)
  unfold M_end
  dsimp only [lt1]
  simp only [cc, cb, if_false]
theorem W2.tend (w : W2 i u s n) (ht : t < n 1) (o : Int32) : W2 i u (mA (mA s 40 t o) 41 t 0) n := w.tm ht rfl rfl (fun j hj => by simp [tmv, mA, va_up, upd, hj]) (fun z => absurd (by simp [mA, va_up, upd]) z)
theorem s_tend {o : Int32} {kc ks : Nat} {Q : Hp → Prop} (X : CX E A h y s n cp kd fs fr cf gf) (ht : t < n 1) (hQ : ∀ h', CX E A h' y (mA (mA s 40 t o) 41 t 0) n cp kd fs fr cf gf → xg A h h' → Q h') : m_X8_end E (y 5 t) o h kc ks Q := by
  obtain ⟨wd, x, xp⟩ := X.1.term ht
  refine pV_of x (by show 5 < 14; decide) (pV_of x.set (by show 12 < 14; decide) ?_)
  obtain ⟨-, c0, k0, am0, un0, tt0, w0, a0, sl0, e0, -⟩ := xp
  have n6 : y 6 t ≠ y 5 t := nP_obj x (by decide) _ _ e0
  obtain ⟨X', g'⟩ := X.tm (S := fun a => a = y 5 t) (s' := mA (mA s 40 t o) 41 t 0) (p := y 6 t) (x37 := s.2.2.2 37 t) (x38 := s.2.2.2 38 t) (x40 := o) (x39 := s.2.2.2 39 t) (x43 := s.2.2.1 43 t) (x46 := s.2.2.1 46 t) (x48 := s.2.2.1 48 t) (x51 := s.2.2.1 51 t) (x41 := 0) (x42 := s.2.2.2 42 t) (x44 := s.2.2.2 44 t) (x45 := s.2.2.2 45 t) (x47 := s.2.2.1 47 t) (x49 := s.2.2.1 49 t) (x50 := s.2.2.1 50 t) (wd := wd) ht ((xg.set (S := fun a => a = y 5 t) rfl).tr (xg.set (S := fun a => a = y 5 t) rfl)) (fun a z => Or.inl z) (fun z => absurd z n6) (Or.inl ⟨rfl, Or.inr rfl⟩) (by simp [tmv, mA, va_up, upd]) x.set.set ⟨fun z => absurd rfl z, _, _, _, _, _, _, _, _, (e0.ne n6).ne n6, fun z => absurd rfl z, fun z => absurd z (by decide), fun z => absurd z (by decide), fun z => absurd z (by decide)⟩ rfl rfl (fun j hj => by simp [tmv, mA, va_up, upd, hj]) rfl
  rw [up2_id] at X'
  exact hQ _ X' g'
theorem SendR.sc {k : Nat} {so nu oso onu : Int32} (hS : SendR s k so nu oso onu v n r s' n') : s'.2.1 = s.2.1 ∧ s'.2.2.2 = s.2.2.2 ∧ (∀ j, j < 7 ∨ 12 < j → s'.2.2.1 j = s.2.2.1 j) ∧ (∀ j, j ≠ 6 → s'.1 j = s.1 j) ∧ (r = 0 ∨ r = 1) := by
  rcases hS with ⟨_, rfl, rfl, _⟩ | ⟨_, rfl, _, B, rfl, _⟩
  · exact ⟨rfl, rfl, fun _ _ => rfl, fun _ _ => rfl, Or.inl rfl⟩
  · refine ⟨rfl, rfl, fun j hj => ?_, fun j hj => va_up_ne _ _ hj, Or.inr rfl⟩
    simp only [lieA, mI, mA, sB]
    rw [va_up_ne _ _ (by omega), va_up_ne _ _ (by omega), va_up_ne _ _ (by omega), va_up_ne _ _ (by omega), va_up_ne _ _ (by omega), va_up_ne _ _ (by omega)]
def wtS (s : MS) (t : Nat) (w : Int32) : MS := mL (mA s 41 t w) 42 t s.2.1
theorem W2.wt (w : W2 i u s n) (ht : t < n 1) {x : Nat} (hx : x = 2 ∨ x = 4 ∨ x = 6 ∨ x = 8 ∨ x = 10) (h43 : ∃ c, c < n 0 ∧ s.2.2.1 43 t = nI c) (h47 : ¬ x = 2 → ∃ c, c < n 0 ∧ s.2.2.1 47 t = nI c) : W2 i u (wtS s t (nI x)) n := by
  have e41 : (wtS s t (nI x)).2.2.1 41 t = nI x := by simp [wtS, mA, mL, va_up, upd]
  have e43 : (wtS s t (nI x)).2.2.1 43 t = s.2.2.1 43 t := by simp [wtS, mA, mL, va_up]
  have e47 : (wtS s t (nI x)).2.2.1 47 t = s.2.2.1 47 t := by simp [wtS, mA, mL, va_up]
  refine w.tm ht rfl rfl (fun j hj => by simp [tmv, wtS, mA, mL, va_up, upd, vp_updL, hj]) (fun _ => ?_)
  rw [e41, e43, e47]
  refine ⟨h43, ?_, fun z => h47 (fun z2 => z (by rw [z2]; rfl))⟩
  rcases hx with rfl | rfl | rfl | rfl | rfl
  · exact Or.inl rfl
  · exact Or.inr (Or.inl rfl)
  · exact Or.inr (Or.inr (Or.inl rfl))
  · exact Or.inr (Or.inr (Or.inr (Or.inl rfl)))
  · exact Or.inr (Or.inr (Or.inr (Or.inr rfl)))
/-- waitFor -/
theorem s_wait {x : Nat} {c0 kk w0 a0 : Int32} {am un sl : Int64} {kc ks : Nat} {Q : Hp → Prop} (R : RXo E A h y s n cp) (ht : t < n 1) (hx : x = 2 ∨ x = 4 ∨ x = 6 ∨ x = 8 ∨ x = 10) (hd : DJ y n s t (y 6 t)) (ap : PAY h (y 6 t) c0 kk am un (nI t) w0 a0 sl) (h44 : am = s.2.2.2 44 t) (h45 : un = s.2.2.2 45 t) (h47 : ¬ x = 2 → c0 = s.2.2.1 47 t) (h49 : ¬ x = 2 → ¬ x = 4 → w0 = s.2.2.1 49 t) (h50 : x = 8 ∨ x = 10 → kk = s.2.2.1 50 t)
    (hQ : ∀ h', RXo E A h' y (wtS s t (nI x)) n cp → xg A h h' → Q h') : m_X8_waitFor E (y 5 t) (nI x) h kc ks Q := by
  obtain ⟨wd, x0, xp⟩ := R.term ht
  refine pV_of x0 (by show 12 < 14; decide) (pV_of x0.set (by show 13 < 14; decide) ?_)
  have n6 : y 6 t ≠ y 5 t := nP_obj x0 (by decide) _ _ ap
  have xn : ∀ {j : Nat}, j < 11 → nI x = nI j → x = j := fun hj e => (nI_eq (by omega) (by omega)).mp e
  have e4 : (nI x = 4 ∨ nI x = 6 ∨ nI x = 8 ∨ nI x = 10) → ¬ x = 2 := by
    intro z e
    subst e
    revert z; decide
  have e6 : (nI x = 6 ∨ nI x = 8 ∨ nI x = 10) → ¬ x = 2 ∧ ¬ x = 4 := by
    intro z
    constructor <;> intro e <;> subst e <;> revert z <;> decide
  have e8 : (nI x = 8 ∨ nI x = 10) → x = 8 ∨ x = 10 := by
    intro z
    rcases hx with rfl | rfl | rfl | rfl | rfl
    · revert z; decide
    · revert z; decide
    · revert z; decide
    · exact Or.inl rfl
    · exact Or.inr rfl
  obtain ⟨R', g'⟩ := R.tm (S := fun a => a = y 5 t) (s' := wtS s t (nI x)) (p := y 6 t) (x37 := s.2.2.2 37 t) (x38 := s.2.2.2 38 t) (x40 := s.2.2.1 40 t) (x39 := s.2.2.2 39 t) (x43 := s.2.2.1 43 t) (x46 := s.2.2.1 46 t) (x48 := s.2.2.1 48 t) (x51 := s.2.2.1 51 t) (x41 := nI x) (x42 := s.2.1) (x44 := s.2.2.2 44 t) (x45 := s.2.2.2 45 t) (x47 := s.2.2.1 47 t) (x49 := s.2.2.1 49 t) (x50 := s.2.2.1 50 t) (wd := 0) ht ((xg.set (S := fun a => a = y 5 t) rfl).tr (xg.set (S := fun a => a = y 5 t) rfl)) (fun a z => Or.inl z) (fun z => absurd z n6) (Or.inl ⟨rfl, Or.inl hd⟩) (by simp [tmv, wtS, mA, mL, va_up, upd, vp_updL]) x0.set.set ⟨fun _ => ⟨by rw [i64_0, Int64.sub_self], by decide, by decide⟩, _, _, _, _, _, _, _, _, (ap.ne n6).ne n6, fun _ => ⟨rfl, h44, h45⟩, fun z => h47 (e4 z), fun z => h49 (e6 z).1 (e6 z).2, fun z => h50 (e8 z)⟩ rfl rfl (fun j hj => by simp [tmv, wtS, mA, mL, va_up, upd, vp_updL, hj]) rfl
  rw [up2_id] at R'
  exact hQ _ R' g'
theorem M_toItsCard_spec {k x : Nat} (hk : 1 ≤ k ∧ k < 12) (h6 : s.1 6 = nI (n 2)) (hn : n 2 ≤ 60) (ht : t < 8) {V : MS → Prop} (h : ∀ r s' n', SendR s k 1 (nI t) 0 (s.2.2.1 43 t) (s.2.2.2 18) n r s' n' → V (wtS s' t (nI x))) : Mv (M_toItsCard s (nI t) (nI k) (nI x)) V := by
  have cc : (nI t).toNatClampNeg = t := nI_clamp (by omega)
  have cb : (nI t < 0 ∨ 8 ≤ t) = False := ixF (by omega) (by omega)
  obtain ⟨r, s', n', e, hS⟩ := M_send_spec (n := n) (so := 1) (nu := nI t) (oso := 0) (onu := s.2.2.1 43 t) hk h6 hn
  unfold M_toItsCard
  dsimp only [lt1]
  simp only [cc, cb, if_false]
  rw [e]
  exact ⟨_, rfl, h r s' n' hS⟩
/-- sendToCard -/
theorem s_toCard {k x : Nat} {c0 kk w0 a0 : Int32} {am un sl : Int64} {kc ks : Nat} {Q : Hp → Prop} (X : CX E A h y s n cp kd fs fr cf gf) (w : W2 i u s n) (ht : t < n 1) (hk : 1 ≤ k ∧ k < 12) (hx : x = 2 ∨ x = 4 ∨ x = 6 ∨ x = 8 ∨ x = 10) (hd : DJ y n s t (y 6 t)) (ap : PAY h (y 6 t) c0 kk am un (nI t) w0 a0 sl) (h44 : am = s.2.2.2 44 t) (h45 : un = s.2.2.2 45 t) (h47 : ¬ x = 2 → c0 = s.2.2.1 47 t) (h49 : ¬ x = 2 → ¬ x = 4 → w0 = s.2.2.1 49 t) (h50 : x = 8 ∨ x = 10 → kk = s.2.2.1 50 t)
    (he : ∀ t, 1 ≤ t → t ≤ 11 → hasK k t = true → gf t = v t) (hS : SendR s k 1 (nI t) 0 (s.2.2.1 43 t) v n r s' n') (hk1 : Fc n ≤ kc + Fc n') (hk2 : Fs n cp ≤ ks + Fs n' cp)
    (hQ : ∀ h' y', RXo E A h' y' (wtS s' t (nI x)) n' cp → (∀ k j, k ≠ 1 → k ≠ 2 → y' k j = y k j) → xg A h h' → Q h') : m_X8_sendToCard E (y 5 t) (nI k) (nI x) h kc ks Q := by
  obtain ⟨wd, x0, xp⟩ := X.1.term ht
  refine gR_of x0 rfl (gI_of x0 rfl (gI_of x0 rfl (nN_of (isO_of X.world (cK_of kc ks (Nat.le_refl _) (Nat.le_refl _) (s_snd X.1 w.sz hk X.2.2.2 he hS hk1 hk2 (fun h1 y1 R1 g1 hy1 => ?_)))))))
  obtain ⟨S1, S2, S3, S4, -⟩ := hS.sc
  obtain ⟨G1, G2, G3, G4⟩ := hS.F (cp := cp) X.1.2.1.2.2.1.2
  have m1 : n' 1 = n 1 := G4 1 (by omega) (by omega)
  have y6 : ∀ j, y1 6 j = y 6 j := fun j => hy1 6 j (by omega) (by omega)
  have y5 : y1 5 t = y 5 t := hy1 5 t (by omega) (by omega)
  obtain ⟨wd1, x1, xp1⟩ := R1.term (t := t) (by omega)
  have ap1 := X.1.pay g1 ap
  have hd1 : DJ y1 n' s' t (y1 6 t) := by
    obtain ⟨d1, d2, d3, d4, d5⟩ := hd
    refine ⟨fun j hj hn => ?_, fun j hj => ?_, fun j hj => ?_, fun j hj => ?_, fun j hj hz => ?_⟩
    · rw [y6, y6]; exact d1 j (by omega) hn
    · rw [hy1 4 j (by omega) (by omega), y6]; exact d2 j (by have := G4 0 (by omega) (by omega); omega)
    · rw [hy1 13 j (by omega) (by omega), y6]; exact d3 j (by have := G4 6 (by omega) (by omega); omega)
    · rw [hy1 14 j (by omega) (by omega), y6]; exact d4 j (by have := G4 3 (by omega) (by omega); omega)
    · rw [hy1 16 j (by omega) (by omega), y6]; exact d5 j (by have := G4 7 (by omega) (by omega); omega) (by rw [← S3 55 (by omega)]; exact hz)
  rw [y5] at x1
  refine isO_of x1 ?_
  have := s_wait (Q := Q) (kc := 0) (ks := 0) R1 (t := t) (x := x) (c0 := c0) (kk := kk) (w0 := w0) (a0 := a0) (am := am) (un := un) (sl := sl) (by omega) hx hd1 (by rw [y6]; exact ap1) (by rw [S2]; exact h44) (by rw [S2]; exact h45) (fun z => by rw [S3 47 (by omega)]; exact h47 z) (fun z z2 => by rw [S3 49 (by omega)]; exact h49 z z2) (fun z => by rw [S3 50 (by omega)]; exact h50 z) (fun h2 R2 g2 => hQ h2 y1 R2 hy1 ((YS.a X.1.1 g1).tr g2))
  rw [y5] at this
  exact this
end TX
