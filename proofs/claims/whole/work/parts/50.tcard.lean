/-! a terminal asks; takes CARD and PINNED -/
section TCARD
variable {E : Ev} {A S : Nat → Prop} {h h' : Hp} {y y' : Nat → Nat → Nat} {s s' : MS} {n cp n' cp' : Nat → Nat} {kd fs fr : Int32} {cf gf v : Nat → Int64} {i u t : Nat} {r : Int32}
theorem PAY.inj {p : Nat} {c k tt w a c' k' tt' w' a' : Int32} {am un sl am' un' sl' : Int64} (h1 : PAY h p c k am un tt w a sl) (h2 : PAY h p c' k' am' un' tt' w' a' sl') : c = c' ∧ k = k' ∧ am = am' ∧ un = un' ∧ tt = tt' ∧ w = w' ∧ a = a' ∧ sl = sl' := by
  have e := h1.2.symm.trans h2.2
  injection e with e
  injection e with _ e
  simp only [List.cons.injEq, Value.int.injEq, Value.long.injEq] at e
  exact ⟨e.1, e.2.1, e.2.2.1, e.2.2.2.1, e.2.2.2.2.1, e.2.2.2.2.2.1, e.2.2.2.2.2.2.1, e.2.2.2.2.2.2.2.1⟩
theorem CX.pw {c0 kk w0 a0 : Int32} {am un sl : Int64} (X : CX E A h y s n cp kd fs fr cf gf) (ht : t < n 1) (hd : DJ y n s t (y 6 t)) (ap : PAY h (y 6 t) c0 kk am un (nI t) w0 a0 sl) (k' w' a' : Int32) (sl' : Int64) (hw : (s.2.2.1 41 t = 6 ∨ s.2.2.1 41 t = 8 ∨ s.2.2.1 41 t = 10) → w' = s.2.2.1 49 t) (hk : (s.2.2.1 41 t = 8 ∨ s.2.2.1 41 t = 10) → k' = s.2.2.1 50 t) :
    CX E A (xh_set h (y 6 t) (.inr (6, [.int c0, .int k', .long am, .long un, .int (nI t), .int w', .int a', .long sl']))) y s n cp kd fs fr cf gf ∧ xg A h (xh_set h (y 6 t) (.inr (6, [.int c0, .int k', .long am, .long un, .int (nI t), .int w', .int a', .long sl']))) := by
  obtain ⟨wd, x, xp1, c1, k1, am1, un1, tt1, w1, a1, sl1, e1, e2, e3, e4, e5⟩ := X.1.term ht
  obtain ⟨i1, i2, i3, i4, i5, i6, i7, i8⟩ := e1.inj ap
  subst i1 i2 i3 i4 i5 i6 i7 i8
  have n6 : y 6 t ≠ y 5 t := nP_obj x (by decide) _ _ ap
  have := X.tm (S := fun a => a = y 6 t) (h' := xh_set h (y 6 t) (.inr (6, [.int c1, .int k', .long am1, .long un1, .int (nI t), .int w', .int a', .long sl']))) (s' := s) (p := y 6 t) ht (xg.set rfl) (fun a z => Or.inr ⟨z, hd⟩) (fun _ c k am un tt w a sl q => by
    obtain ⟨-, -, j3, j4, j5, -⟩ := q.inj ap
    subst j3 j4 j5
    exact ⟨_, _, _, _, _, ap.set⟩) (Or.inl ⟨rfl, Or.inl hd⟩) rfl (x.ne (fun z => n6 z.symm)) ⟨xp1, c1, k', am1, un1, nI t, w', a', sl', ap.set, e2, e3, hw, hk⟩ rfl rfl (fun _ _ => rfl) rfl
  rw [up2_id] at this
  exact this
theorem tg5 : ∀ t, t ≤ 11 → hasK 5 t = true → t = 3 ∨ t = 4 ∨ t = 5 ∨ t = 7 := by decide +kernel
theorem mL18_44 (s : MS) (j : Nat) (v : Int64) : (mL s 18 j v).2.2.2 44 = s.2.2.2 44 ∧ (mL s 18 j v).2.2.2 45 = s.2.2.2 45 ∧ (mL s 18 j v).2.2.2 37 = s.2.2.2 37 ∧ (mL s 18 j v).2.2.2 38 = s.2.2.2 38 := ⟨rfl, rfl, rfl, rfl⟩
theorem mL18_1 (s : MS) (j : Nat) (v : Int64) : (mL s 18 j v).2.1 = s.2.1 := rfl
def askS (s : MS) (t : Nat) (v7 : Int64) : MS := mL (mL (mL (mL s 18 3 (s.2.2.2 44 t)) 18 4 (s.2.2.2 45 t)) 18 5 (nI t).toInt64) 18 7 v7
theorem askS_vis (v7 : Int64) : vis (askS s t v7) = vis s := by unfold askS; rw [vis_18, vis_18, vis_18, vis_18]
theorem askS_18 (v7 : Int64) : (askS s t v7).2.2.2 18 = vp_updL (vp_updL (vp_updL (vp_updL (s.2.2.2 18) 3 (s.2.2.2 44 t)) 4 (s.2.2.2 45 t)) 5 (nI t).toInt64) 7 v7 := by unfold askS; rw [mL_18, mL_18, mL_18, mL_18]
theorem askS_A (v7 : Int64) : (askS s t v7).2.2.1 = s.2.2.1 := rfl
theorem askS_44 (v7 : Int64) : (askS s t v7).2.2.2 44 = s.2.2.2 44 ∧ (askS s t v7).2.2.2 45 = s.2.2.2 45 := ⟨rfl, rfl⟩
theorem M_ask_eq (s : MS) {t : Nat} (ht : t < 8) : M_ask s (nI t) = if 0 < lg_cmp (s.2.2.2 44 t) (s.2.2.2 37 t) then (M_toItsCard (askS s t 1) (nI t) 5 6).bind fun s19 => some s19 else (M_toItsCard (askS s t 2) (nI t) 5 6).bind fun s19 => some s19 := by
  have cc : (nI t).toNatClampNeg = t := nI_clamp (by omega)
  have cb : (nI t < 0 ∨ 8 ≤ t) = False := ixF (by omega) (by omega)
  unfold M_ask M_ask_L61
  dsimp only [lt1]
  simp only [cc, cb, if_false, tC3, tC4, tC5, tC7, tB3, tB4, tB5, tB7, (mL18_44 _ _ _).1, (mL18_44 _ _ _).2.1, (mL18_44 _ _ _).2.2.1]
  rfl
theorem J_task (w : W2 i u s n) (Rn : RXn s n cp) (ht : t < n 1) (h43 : ∃ c, c < n 0 ∧ s.2.2.1 43 t = nI c) (h47 : ∃ c, c < n 0 ∧ s.2.2.1 47 t = nI c) :
    Mv (M_ask s (nI t)) (fun s' => ∃ n', W2 i u s' n' ∧ Fc n' ≤ Fc n ∧ Fs n' cp ≤ Fs n cp ∧ ∀ h y gf c0 kk w0 a0 sl, CX E A h y s n cp kd fs fr cf gf → DJ y n s t (y 6 t) → PAY h (y 6 t) c0 kk (s.2.2.2 44 t) (s.2.2.2 45 t) (nI t) w0 a0 sl → c0 = s.2.2.1 47 t → (s.2.2.1 41 t = 2 ∨ s.2.2.1 41 t = 4) → ∀ kc ks, Fc n ≤ kc + Fc n' → Fs n cp ≤ ks + Fs n' cp → ∀ Q : Hp → Prop, (∀ h' y', RXo E A h' y' s' n' cp → y' 0 0 = y 0 0 → xg A h h' → Q h') → m_X8_ask E (y 5 t) (s.2.2.1 49 t) h kc ks Q) := by
  have hn1 := Rn.2.1.2
  have hn2 := Rn.2.2.1
  rw [M_ask_eq s (by omega)]
  have fin : ∀ v7 : Int64, (0 < lg_cmp (s.2.2.2 44 t) (s.2.2.2 37 t) → v7 = 1) → (¬ 0 < lg_cmp (s.2.2.2 44 t) (s.2.2.2 37 t) → v7 = 2) → Mv ((M_toItsCard (askS s t v7) (nI t) 5 6).bind fun s19 => some s19) (fun s' => ∃ n', W2 i u s' n' ∧ Fc n' ≤ Fc n ∧ Fs n' cp ≤ Fs n cp ∧ ∀ h y gf c0 kk w0 a0 sl, CX E A h y s n cp kd fs fr cf gf → DJ y n s t (y 6 t) → PAY h (y 6 t) c0 kk (s.2.2.2 44 t) (s.2.2.2 45 t) (nI t) w0 a0 sl → c0 = s.2.2.1 47 t → (s.2.2.1 41 t = 2 ∨ s.2.2.1 41 t = 4) → ∀ kc ks, Fc n ≤ kc + Fc n' → Fs n cp ≤ ks + Fs n' cp → ∀ Q : Hp → Prop, (∀ h' y', RXo E A h' y' s' n' cp → y' 0 0 = y 0 0 → xg A h h' → Q h') → m_X8_ask E (y 5 t) (s.2.2.1 49 t) h kc ks Q) := by
    intro v7 hv1 hv2
    have wA : W2 i u (askS s t v7) n := w.eqv (askS_vis v7)
    refine Mv.bv (M_toItsCard_spec (n := n) (k := 5) (x := 6) (by omega) wA.1.2.2.1.1 (by omega) (by omega) (fun r1 s1 n1 hS => Mv.r ?_))
    rw [askS_18] at hS
    obtain ⟨G1, G2, G3, G4⟩ := hS.F (cp := cp) (by omega)
    obtain ⟨S1, S2, S3, S4, -⟩ := hS.sc
    have m0 := G4 0 (by omega) (by omega)
    have m1 := G4 1 (by omega) (by omega)
    have w1 := hS.w (by omega) wA (Or.inr (Or.inl ⟨rfl, t, ht, rfl⟩)) (Or.inl ⟨rfl, by rw [askS_A]; exact h43⟩)
    refine ⟨n1, w1.wt (x := 6) (by omega) (by omega) (by rw [S3 43 (by omega), askS_A, m0]; exact h43) (fun _ => by rw [S3 47 (by omega), askS_A, m0]; exact h47), G1, G2, fun h y gf c0 kk w0 a0 sl X hd ap h47 h41 kc ks k1 k2 Q hQ => ?_⟩
    obtain ⟨wd, x, xp⟩ := X.1.term ht
    have n6 : y 6 t ≠ y 5 t := nP_obj x (by decide) _ _ ap
    refine gR_of x rfl (nN_of (pV_of ap (by show 5 < 8; decide) ?_))
    obtain ⟨X1, g1⟩ := X.pw ht hd ap kk (s.2.2.1 49 t) a0 sl (fun _ => rfl) (fun z => by rcases h41 with e | e <;> rw [e] at z <;> exact absurd z (by decide))
    have ap1 := ap.set (e' := .inr (6, [.int c0, .int kk, .long (s.2.2.2 44 t), .long (s.2.2.2 45 t), .int (nI t), .int (s.2.2.1 49 t), .int a0, .long sl]))
    obtain ⟨wd1, x1, -⟩ := X1.1.term ht
    obtain ⟨b1, b2, b3, go1⟩ := X1.goes
    refine gR_of x1 rfl (nN_of (gR_of X1.world rfl (nN_of (gR_of go1 rfl (gR_of x1 rfl (nN_of (gL_of ap1 rfl (nN_of (sL_of X1.2.2.2 (j := 3) rfl (by omega) (by omega) ?_)))))))))
    obtain ⟨X2, g2⟩ := X1.gs 3 (s.2.2.2 44 t)
    have ap2 : PAY _ (y 6 t) c0 kk (s.2.2.2 44 t) (s.2.2.2 45 t) (nI t) (s.2.2.1 49 t) a0 sl := ap1.ne (a := y 0 8) (e' := .inl (E.1 1, 12, .inr (.inl (vp_updL gf 3 (s.2.2.2 44 t))))) (nP_arr X1.2.2.2 _ _ ap1)
    obtain ⟨wd2, x2, -⟩ := X2.1.term ht
    obtain ⟨b1, b2, b3, go2⟩ := X2.goes
    refine gR_of x2 rfl (nN_of (gR_of X2.world rfl (nN_of (gR_of go2 rfl (gR_of x2 rfl (nN_of (gL_of ap2 rfl (nN_of (sL_of X2.2.2.2 (j := 4) rfl (by omega) (by omega) ?_)))))))))
    obtain ⟨X3, g3⟩ := X2.gs 4 (s.2.2.2 45 t)
    have ap3 : PAY _ (y 6 t) c0 kk (s.2.2.2 44 t) (s.2.2.2 45 t) (nI t) (s.2.2.1 49 t) a0 sl := ap2.ne (a := y 0 8) (e' := .inl (E.1 1, 12, .inr (.inl (vp_updL (vp_updL gf 3 (s.2.2.2 44 t)) 4 (s.2.2.2 45 t))))) (nP_arr X2.2.2.2 _ _ ap2)
    obtain ⟨wd3, x3, -⟩ := X3.1.term ht
    obtain ⟨b1, b2, b3, go3⟩ := X3.goes
    refine gR_of x3 rfl (nN_of (gR_of X3.world rfl (nN_of (gR_of go3 rfl (gI_of x3 rfl (nN_of (sL_of X3.2.2.2 (j := 5) rfl (by omega) (by omega) ?_)))))))
    obtain ⟨X4, g4⟩ := X3.gs 5 (nI t).toInt64
    have ap4 : PAY _ (y 6 t) c0 kk (s.2.2.2 44 t) (s.2.2.2 45 t) (nI t) (s.2.2.1 49 t) a0 sl := ap3.ne (a := y 0 8) (e' := .inl (E.1 1, 12, .inr (.inl (vp_updL (vp_updL (vp_updL gf 3 (s.2.2.2 44 t)) 4 (s.2.2.2 45 t)) 5 (nI t).toInt64)))) (nP_arr X3.2.2.2 _ _ ap3)
    obtain ⟨wd4, x4, -⟩ := X4.1.term ht
    obtain ⟨b1, b2, b3, go4⟩ := X4.goes
    have rest : ∀ h4, CX E A h4 y s n cp kd fs fr cf (vp_updL (vp_updL (vp_updL gf 3 (s.2.2.2 44 t)) 4 (s.2.2.2 45 t)) 5 (nI t).toInt64) → PAY h4 (y 6 t) c0 kk (s.2.2.2 44 t) (s.2.2.2 45 t) (nI t) (s.2.2.1 49 t) a0 sl → xg A h h4 → m_X8_ask_L97 E (y 5 t) v7 7 (some (y 0 8)) h4 kc ks Q := by
      intro h4 X4 ap4 gg
      refine nN_of (sL_of X4.2.2.2 (j := 7) rfl (by omega) (by omega) ?_)
      obtain ⟨X5, g5⟩ := X4.gs 7 v7
      have ap5 : PAY _ (y 6 t) c0 kk (s.2.2.2 44 t) (s.2.2.2 45 t) (nI t) (s.2.2.1 49 t) a0 sl := ap4.ne (a := y 0 8) (e' := .inl (E.1 1, 12, .inr (.inl (vp_updL (vp_updL (vp_updL (vp_updL gf 3 (s.2.2.2 44 t)) 4 (s.2.2.2 45 t)) 5 (nI t).toInt64) 7 v7)))) (nP_arr X4.2.2.2 _ _ ap4)
      obtain ⟨wd5, x5, -⟩ := X5.1.term ht
      refine isO_of x5 (cK_of kc ks (Nat.le_refl _) (Nat.le_refl _) ?_)
      refine s_toCard (k := 5) (x := 6) (X5.eqv (s' := askS s t v7) (askS_vis v7)) wA ht (by omega) (by omega) hd ap5 (by rw [(askS_44 v7).1]) (by rw [(askS_44 v7).2]) (fun _ => by rw [askS_A]; exact h47) (fun _ _ => by rw [askS_A]) (fun z => by omega) (fun q q1 q2 hq => ?_) hS k1 k2 (fun h9 y9 R9 hy9 g9 => hQ h9 y9 R9 (hy9 0 0 (by omega) (by omega)) (gg.tr (g5.tr g9)))
      rcases tg5 q q2 hq with rfl | rfl | rfl | rfl <;> simp [vp_updL]
    have rest := rest _ X4 ap4 (g1.tr (g2.tr (g3.tr g4)))
    refine gR_of x4 rfl (nN_of (gR_of X4.world rfl (nN_of (gR_of go4 rfl (gR_of x4 rfl (nN_of (gL_of ap4 rfl (gL_of x4 rfl ⟨fun q => ?_, fun q => ?_⟩))))))))
    · rw [hv1 q] at rest; exact rest
    · rw [hv2 q] at rest; exact rest
  exact Mv.i (fun q => fin 1 (fun _ => rfl) (fun z => absurd q z)) (fun q => fin 2 (fun z => absurd z q) (fun _ => rfl))
theorem CX.t49 (X : CX E A h y s n cp kd fs fr cf gf) (ht : t < n 1) (h41 : s.2.2.1 41 t = 2 ∨ s.2.2.1 41 t = 4) (v : Int32) : CX E A h y (mA s 49 t v) n cp kd fs fr cf gf := by
  obtain ⟨wd, x, xp1, c1, k1, am1, un1, tt1, w1, a1, sl1, e1, e2, e3, e4, e5⟩ := X.1.term ht
  have hd := X.1.dj ht (by rcases h41 with e | e <;> rw [e] <;> decide)
  have := (X.tm (S := fun _ => False) (h' := h) (s' := mA s 49 t v) (p := y 6 t) (x49 := v) ht xg.rf (fun a z => z.elim) (fun z => z.elim) (Or.inl ⟨rfl, Or.inl hd⟩) (by simp [tmv, mA, va_up, upd]) x ⟨xp1, c1, k1, am1, un1, tt1, w1, a1, sl1, e1, e2, e3, fun z => by rcases h41 with e | e <;> rw [e] at z <;> exact absurd z (by decide), e5⟩ rfl rfl (fun j hj => by simp [tmv, mA, va_up, upd, hj]) rfl).1
  rw [up2_id] at this
  exact this
theorem W2.t49 (w : W2 i u s n) (ht : t < n 1) (v : Int32) : W2 i u (mA s 49 t v) n := w.tm ht rfl rfl (fun j hj => by simp [tmv, mA, va_up, upd, hj]) (by simpa [mA, va_up] using w.2.2.2.2.2.1 t ht)
def tcS (s : MS) (t : Nat) (a b : Int32) : MS := mA (mA s 47 t a) 48 t b
theorem W2.tc (w : W2 i u s n) (ht : t < n 1) (h41 : s.2.2.1 41 t = 2) (a b : Int32) : W2 i u (tcS s t a b) n := by
  have e41 : (tcS s t a b).2.2.1 41 t = 2 := by rw [← h41]; simp [tcS, mA, va_up]
  have e43 : (tcS s t a b).2.2.1 43 t = s.2.2.1 43 t := by simp [tcS, mA, va_up]
  refine w.tm ht rfl rfl (fun j hj => by simp [tmv, tcS, mA, va_up, upd, hj]) (fun _ => ?_)
  rw [e41, e43]
  exact ⟨(w.2.2.2.2.2.1 t ht (by rw [h41]; decide)).1, Or.inl rfl, fun z => absurd rfl z⟩
theorem rowS_o (s : MS) (l : List Int64) : (rowS s l).2.2.2 44 = s.2.2.2 44 ∧ (rowS s l).2.2.2 45 = s.2.2.2 45 ∧ (rowS s l).2.2.2 37 = s.2.2.2 37 ∧ (rowS s l).2.2.2 38 = s.2.2.2 38 := ⟨rfl, rfl, rfl, rfl⟩
theorem rowS_21 (s : MS) (l : List Int64) : (rowS s l).1 21 = s.1 21 := rfl
theorem tcS_o (s : MS) (t : Nat) (a b : Int32) : (tcS s t a b).2.2.2 = s.2.2.2 ∧ (tcS s t a b).2.2.1 41 = s.2.2.1 41 ∧ (tcS s t a b).2.2.1 43 = s.2.2.1 43 ∧ (tcS s t a b).2.2.1 46 = s.2.2.1 46 := ⟨rfl, rfl, rfl, rfl⟩
theorem tcS_47 (s : MS) (t : Nat) (a b : Int32) : (tcS s t a b).2.2.1 47 t = a := by simp [tcS, mA, va_up, upd]
theorem vis_tc {s1 : MS} (e : vis s1 = vis s) (a b : Int32) : vis (tcS s1 t a b) = vis (tcS s t a b) := by
  have h1 : ∀ z : MS, vis (tcS z t a b) = vis (tcS (unvis (vis z)) t a b) := fun _ => rfl
  rw [h1 s1, h1 s, e]
theorem CX.tc {c0 kk w0 a0 : Int32} {am un sl : Int64} (X : CX E A h y s n cp kd fs fr cf gf) (ht : t < n 1) (h41 : s.2.2.1 41 t = 2) (ap : PAY h (y 6 t) c0 kk am un (nI t) w0 a0 sl) {wd : Int32} (x : xh_at h (y 5 t) (.inr (9, termL y t (y 6 t) (s.2.2.2 37 t) (s.2.2.2 38 t) (s.2.2.1 40 t) (s.2.2.2 39 t) (s.2.2.1 43 t) (s.2.2.1 46 t) (s.2.2.1 48 t) (s.2.2.1 51 t) (s.2.2.1 41 t) wd))) (a b : Int32) :
    CX E A (xh_set (xh_set h (y 6 t) (.inr (6, [.int a, .int kk, .long am, .long un, .int (nI t), .int w0, .int a0, .long sl]))) (y 5 t) (.inr (9, termL y t (y 6 t) (s.2.2.2 37 t) (s.2.2.2 38 t) (s.2.2.1 40 t) (s.2.2.2 39 t) (s.2.2.1 43 t) (s.2.2.1 46 t) b (s.2.2.1 51 t) (s.2.2.1 41 t) wd))) y (tcS s t a b) n cp kd fs fr cf gf ∧ xg A h (xh_set (xh_set h (y 6 t) (.inr (6, [.int a, .int kk, .long am, .long un, .int (nI t), .int w0, .int a0, .long sl]))) (y 5 t) (.inr (9, termL y t (y 6 t) (s.2.2.2 37 t) (s.2.2.2 38 t) (s.2.2.1 40 t) (s.2.2.2 39 t) (s.2.2.1 43 t) (s.2.2.1 46 t) b (s.2.2.1 51 t) (s.2.2.1 41 t) wd))) := by
  obtain ⟨wd', x', xp1, c1, k1, am1, un1, tt1, w1, a1, sl1, e1, e2, e3, e4, e5⟩ := X.1.term ht
  obtain ⟨i1, i2, i3, i4, i5, i6, i7, i8⟩ := e1.inj ap
  subst i1 i2 i3 i4 i5 i6 i7 i8
  have ew : wd' = wd := by
    have e := x'.2.symm.trans x.2
    injection e with e
    injection e with _ e
    unfold termL at e
    simp only [List.cons.injEq, Value.int.injEq] at e
    exact e.2.2.2.2.2.2.2.2.2.2.2.2.2.1
  subst ew
  have hd := X.1.dj ht (by rw [h41]; decide)
  have n6 : y 6 t ≠ y 5 t := nP_obj x (by decide) _ _ ap
  have := X.tm (S := fun a => a = y 5 t ∨ a = y 6 t) (h' := (xh_set (xh_set h (y 6 t) (.inr (6, [.int a, .int k1, .long am1, .long un1, .int (nI t), .int w1, .int a1, .long sl1]))) (y 5 t) (.inr (9, termL y t (y 6 t) (s.2.2.2 37 t) (s.2.2.2 38 t) (s.2.2.1 40 t) (s.2.2.2 39 t) (s.2.2.1 43 t) (s.2.2.1 46 t) b (s.2.2.1 51 t) (s.2.2.1 41 t) wd')))) (s' := tcS s t a b) (p := y 6 t) (x37 := s.2.2.2 37 t) (x38 := s.2.2.2 38 t) (x40 := s.2.2.1 40 t) (x39 := s.2.2.2 39 t) (x43 := s.2.2.1 43 t) (x46 := s.2.2.1 46 t) (x48 := b) (x51 := s.2.2.1 51 t) (x41 := s.2.2.1 41 t) (x42 := s.2.2.2 42 t) (x44 := s.2.2.2 44 t) (x45 := s.2.2.2 45 t) (x47 := a) (x49 := s.2.2.1 49 t) (x50 := s.2.2.1 50 t) (wd := wd') ht ((xg.set (Or.inr rfl)).tr (xg.set (Or.inl rfl))) (fun a z => z.elim Or.inl (fun z => Or.inr ⟨z, hd⟩)) (fun _ c k am un tt w a sl q => by
    obtain ⟨-, -, j3, j4, j5, -⟩ := q.inj ap
    subst j3 j4 j5
    exact ⟨_, _, _, _, _, ap.set.ne n6⟩) (Or.inl ⟨rfl, Or.inl hd⟩) (by simp [tmv, tcS, mA, va_up, upd]) (xh_at.set (x.ne (fun z => n6 z.symm))) ⟨xp1, a, k1, am1, un1, nI t, w1, a1, sl1, ap.set.ne n6, e2, fun _ => rfl, e4, e5⟩ rfl rfl (fun j hj => by simp [tmv, tcS, mA, va_up, upd, hj]) rfl
  rw [up2_id] at this
  exact this
end TCARD
