/-! a terminal writes to the host -/
section THOST
variable {E : Ev} {A S : Nat → Prop} {h h' : Hp} {y y' : Nat → Nat → Nat} {s s' : MS} {n cp n' cp' : Nat → Nat} {kd fs fr : Int32} {cf gf v : Nat → Int64} {i u t : Nat} {r : Int32}
def fillS (s : MS) (t : Nat) (v2 v8 : Int64) : MS := mL (mL (mL (mL (mL (mL (mL s 18 1 (s.2.2.1 47 t).toInt64) 18 2 v2) 18 3 (s.2.2.2 44 t)) 18 4 (s.2.2.2 45 t)) 18 5 (nI t).toInt64) 18 6 (s.2.2.1 49 t).toInt64) 18 8 v8
theorem M_fill_eq (s : MS) {t : Nat} (ht : t < 8) (v2 v8 : Int64) : M_fill s (nI t) v2 v8 = some (fillS s t v2 v8) := by
  have cc : (nI t).toNatClampNeg = t := nI_clamp (by omega)
  have cb : (nI t < 0 ∨ 8 ≤ t) = False := ixF (by omega) (by omega)
  unfold M_fill
  dsimp only [lt1]
  simp only [cc, cb, if_false, tC1, tC2, tC3, tC4, tC5, tC6, tC8, tB1, tB2, tB3, tB4, tB5, tB6, tB8, (mL18_44 _ _ _).1, (mL18_44 _ _ _).2.1, mL_A]
  rfl
theorem fillS_vis (v2 v8 : Int64) : vis (fillS s t v2 v8) = vis s := by unfold fillS; rw [vis_18, vis_18, vis_18, vis_18, vis_18, vis_18, vis_18]
theorem fillS_A (v2 v8 : Int64) : (fillS s t v2 v8).2.2.1 = s.2.2.1 := rfl
theorem fillS_I (v2 v8 : Int64) : (fillS s t v2 v8).1 = s.1 := rfl
theorem fillS_17 (v2 v8 : Int64) : (fillS s t v2 v8).2.2.2 17 = s.2.2.2 17 := rfl
theorem fillS_18 (v2 v8 : Int64) : (fillS s t v2 v8).2.2.2 18 = vp_updL (vp_updL (vp_updL (vp_updL (vp_updL (vp_updL (vp_updL (s.2.2.2 18) 1 (s.2.2.1 47 t).toInt64) 2 v2) 3 (s.2.2.2 44 t)) 4 (s.2.2.2 45 t)) 5 (nI t).toInt64) 6 (s.2.2.1 49 t).toInt64) 8 v8 := by unfold fillS; rw [mL_18, mL_18, mL_18, mL_18, mL_18, mL_18, mL_18]
theorem fillS_v (v2 v8 : Int64) : (fillS s t v2 v8).2.2.2 18 1 = (s.2.2.1 47 t).toInt64 ∧ (fillS s t v2 v8).2.2.2 18 2 = v2 ∧ (fillS s t v2 v8).2.2.2 18 3 = s.2.2.2 44 t ∧ (fillS s t v2 v8).2.2.2 18 4 = s.2.2.2 45 t ∧ (fillS s t v2 v8).2.2.2 18 5 = (nI t).toInt64 ∧ (fillS s t v2 v8).2.2.2 18 6 = (s.2.2.1 49 t).toInt64 ∧ (fillS s t v2 v8).2.2.2 18 8 = v8 := by
  rw [fillS_18]
  refine ⟨?_, ?_, ?_, ?_, ?_, ?_, ?_⟩ <;> simp [vp_updL]
theorem rowS_18 (s : MS) (l : List Int64) : (rowS s l).2.2.2 18 = s.2.2.2 18 := rfl
theorem M_sign_step {l : List Int64} (m : Nat) (s : MS) (t : Nat) {j : Nat} (hj : j ≤ 8) (h7 : j ≠ 7) (hl : l.length < 12) : M_sign_L8 (m + 1) (rowS s l) (nI t) (nI j) = M_sign_L8 m (rowS s (l ++ [s.2.2.2 18 j])) (nI t) (nI (j + 1)) := by
  rw [M_sign_L8]
  rw [if_neg (show ¬ (8 : Int32) < nI j from nI_nlt (a := 8) (b := j) hj (by omega)), if_neg (show ¬ nI j = 7 from fun e => h7 ((nI_eq (b := 7) (by omega) (by omega)).mp e)), if_neg (nI_in (by omega) (by omega)), nI_clamp (by omega), rowS_18, M_more_eq _ _ hl]
  unfold M_sign_L30
  rw [nI_1]
  rfl
theorem M_sign_7 (m : Nat) (s : MS) (t : Nat) : M_sign_L8 (m + 1) s (nI t) (nI 7) = M_sign_L8 m s (nI t) (nI 8) := by
  rw [M_sign_L8]
  rw [if_neg (show ¬ (8 : Int32) < nI 7 by decide), if_pos (show nI 7 = 7 from rfl)]
  unfold M_sign_L30
  rfl
theorem M_sign_9 (m : Nat) (s : MS) (t : Nat) : M_sign_L8 (m + 1) s (nI t) (nI 9) = (M_seal s 1 (nI t).toInt64).bind fun px => some (mL px.2 18 11 px.1.toInt64) := by
  rw [M_sign_L8]
  rw [if_pos (show (8 : Int32) < nI 9 by decide)]
  dsimp only [lt1]
  simp only [tC11, tB11, if_false]
def sgL (k : Nat) (g : Nat → Int64) : List Int64 := [(nI k).toInt64, g 1, g 2, g 3, g 4, g 5, g 6, g 8]
theorem M_sign_eq (s : MS) (t k : Nat) : M_sign s (nI t) (nI k) = (M_seal (rowS s (sgL k (s.2.2.2 18))) 1 (nI t).toInt64).bind fun px => some (mL px.2 18 11 px.1.toInt64) := by
  unfold M_sign
  obtain ⟨m, hm⟩ : ∃ m, mfu = m + 1 + 1 + 1 + 1 + 1 + 1 + 1 + 1 + 1 := ⟨8183, by unfold mfu; omega⟩
  rw [M_begin_eq, hm, Option.bind_some]
  show M_sign_L8 (m + 1 + 1 + 1 + 1 + 1 + 1 + 1 + 1 + 1) (rowS s [(nI k).toInt64]) (nI t) (nI 1) = _
  rw [M_sign_step _ s t (j := 1) (by omega) (by omega) (by simp), M_sign_step _ s t (j := 2) (by omega) (by omega) (by simp), M_sign_step _ s t (j := 3) (by omega) (by omega) (by simp), M_sign_step _ s t (j := 4) (by omega) (by omega) (by simp), M_sign_step _ s t (j := 5) (by omega) (by omega) (by simp), M_sign_step _ s t (j := 6) (by omega) (by omega) (by simp), M_sign_7, M_sign_step _ s t (j := 8) (by omega) (by omega) (by simp), M_sign_9]
  rfl
theorem tg7 : ∀ t, t ≤ 11 → (hasK 7 t = true ∨ hasK 11 t = true) → t = 1 ∨ t = 2 ∨ t = 3 ∨ t = 4 ∨ t = 5 ∨ t = 6 ∨ t = 8 ∨ t = 11 := by decide +kernel
theorem CX.g1 {p : Nat} {f : List Value} (X : CX E A h y s n cp kd fs fr cf gf) (hp : xh_at h p (.inr (6, f))) (q : Nat) (w : Int64) : xh_at (xh_set h (y 0 8) (.inl (E.1 1, 12, .inr (.inl (vp_updL gf q w))))) p (.inr (6, f)) := hp.ne (nP_arr X.2.2.2 _ _ hp)
/-- sendToHost -/
theorem s_toHost {k p : Nat} {c kk w0 a0 : Int32} {am un sl : Int64} {l : List Int64} {sC s3 sM s4 : MS} {n3 cp3 n4 : Nat → Nat} {r3 r4 : Int32} {kc ks : Nat} {Q : Int32 → Hp → Prop} (X : CX E A h y s n cp kd fs fr cf gf) (ht : t < n 1) (hk : k = 7 ∨ k = 11) (ap : PAY h p c kk am un (nI t) w0 a0 sl) (hn4 : n 4 < 2048) (hl : l = [(nI k).toInt64, c.toInt64, kk.toInt64, am, un, (nI t).toInt64, w0.toInt64, sl])
    (hvB : vis sC = vis s) (hS3 : SealR sC (nI (256 * 1 + t)) l.length (fun i => l.getD i 0) n cp r3 s3 n3 cp3) (hv : vis sM = vis s3) (w3 : W2 i u sM n3) (hS4 : SendR sM k 1 (nI t) 2 0 v n3 r4 s4 n4) (v1 : v 1 = c.toInt64) (v2 : v 2 = kk.toInt64) (v3 : v 3 = am) (v4 : v 4 = un) (v5 : v 5 = (nI t).toInt64) (v6 : v 6 = w0.toInt64) (v8 : v 8 = sl) (v11 : v 11 = r3.toInt64) (k1 : Fc n ≤ kc + Fc n4) (k2 : Fs n cp ≤ ks + Fs n4 cp3)
    (hQ : ∀ h' y', RXo E A h' y' s4 n4 cp3 → (∀ k j, k ≠ 1 → k ≠ 2 → k ≠ 10 → k ≠ 11 → k ≠ 15 → y' k j = y k j) → (∀ q f, xh_at h q (.inr (6, f)) → xh_at h' q (.inr (6, f))) → (∀ e, xh_at h (y 0 5) e → xh_at h' (y 0 5) e) → (∀ e, xh_at h (y 0 7) e → xh_at h' (y 0 7) e) → (∃ g', xh_at h' (y 0 8) (.inl (E.1 1, 12, .inr (.inl g')))) → xg A h h' → Q r4 h') : m_X8_sendToHost E (y 5 t) (nI k) (some p) h kc ks Q := by
  have hn1 := X.1.2.1.2.1.2
  have hn2 := X.1.2.1.2.2.1
  obtain ⟨wd, x, xp⟩ := X.1.term ht
  obtain ⟨b1, b2, b3, go⟩ := X.goes
  refine gR_of x rfl (nN_of (gR_of X.world rfl (nN_of (gR_of go rfl (nN_of (gI_of ap rfl (nN_of (sL_of X.2.2.2 (j := 1) rfl (by omega) (by omega) ?_))))))))
  obtain ⟨X1, g1⟩ := X.gs 1 c.toInt64
  have a1 := X.g1 ap 1 c.toInt64
  refine gI_of a1 rfl (sL_of X1.2.2.2 (j := 2) rfl (by omega) (by omega) ?_)
  obtain ⟨X2, g2⟩ := X1.gs 2 kk.toInt64
  have a2 := X1.g1 a1 2 kk.toInt64
  refine gL_of a2 rfl (sL_of X2.2.2.2 (j := 3) rfl (by omega) (by omega) ?_)
  obtain ⟨X3, g3⟩ := X2.gs 3 am
  have a3 := X2.g1 a2 3 am
  refine gL_of a3 rfl (sL_of X3.2.2.2 (j := 4) rfl (by omega) (by omega) ?_)
  obtain ⟨X4, g4⟩ := X3.gs 4 un
  have a4 := X3.g1 a3 4 un
  obtain ⟨wd4, x4, -⟩ := X4.1.term ht
  refine gI_of x4 rfl (sL_of X4.2.2.2 (j := 5) rfl (by omega) (by omega) ?_)
  obtain ⟨X5, g5⟩ := X4.gs 5 (nI t).toInt64
  have a5 := X4.g1 a4 5 (nI t).toInt64
  refine gI_of a5 rfl (sL_of X5.2.2.2 (j := 6) rfl (by omega) (by omega) ?_)
  obtain ⟨X6, g6⟩ := X5.gs 6 w0.toInt64
  have a6 := X5.g1 a5 6 w0.toInt64
  refine gL_of a6 rfl (sL_of X6.2.2.2 (j := 8) rfl (by omega) (by omega) ?_)
  obtain ⟨X7, g7⟩ := X6.gs 8 sl
  have a7 := X6.g1 a6 8 sl
  have gg7 := g1.tr (g2.tr (g3.tr (g4.tr (g5.tr (g6.tr g7)))))
  have pk7 : ∀ q f, xh_at h q (.inr (6, f)) → xh_at _ q (.inr (6, f)) := fun q f hq => X6.g1 (X5.g1 (X4.g1 (X3.g1 (X2.g1 (X1.g1 (X.g1 hq 1 c.toInt64) 2 kk.toInt64) 3 am) 4 un) 5 (nI t).toInt64) 6 w0.toInt64) 8 sl
  obtain ⟨wd7, x7, -⟩ := X7.1.term ht
  obtain ⟨-, -, -, -, -, ⟨z0, z1, z2, f5⟩, -⟩ := id X7.1.2.2.1
  refine gR_of x7 rfl (nN_of (gR_of X7.world rfl (nN_of (isO_of f5 ?_))))
  refine s_ofTerminal X7.1 a7 (fun h8 S8 => ?_)
  have hll : l.length = 8 := by rw [hl]; rfl
  have X8 : CX E A h8 y s n cp kd fs fr cf _ := X7.ys S8.1 S8.2.1 ⟨by unfold rowP; omega, by unfold rowP; omega, by unfold rowP; omega⟩ (fun _ => rfl)
  have S9 := S8.re (s' := sC) (l' := l) hvB hl
  have X9 := X8.eqv (s' := sC) hvB
  obtain ⟨-, -, -, -, -, ⟨z0, z1, z2, f5'⟩, -⟩ := id X9.1.2.2.1
  obtain ⟨F1, F2, F3, F4⟩ := hS3.F hn4 X.1.2.1.2.2.2.2.2.2.2.2.2.2
  have hn32 : n3 2 = n 2 := F4 2 (by omega)
  have hn39 : n3 9 = n 9 := F4 9 (by omega)
  have hn31 : n3 1 = n 1 := F4 1 (by omega)
  obtain ⟨G1, G2, G3, G4⟩ := hS4.F (cp := cp3) (by omega)
  refine nN_of (isO_of f5' (cK_of (Fc n - Fc n3) (Fs n cp - Fs n3 cp3) (by omega) (by omega) ?_))
  refine s_seal S9 (by omega) (by omega) (by omega) hn4 hS3 (by omega) (by omega) (fun h10 y10 R10 g10 hy10 => ?_)
  have yy : ∀ j, y10 0 j = y 0 j := fun j => hy10 0 j (by omega) (by omega) (by omega)
  have X10 : CX E A h10 y10 s3 n3 cp3 kd fs fr cf _ := X9.ys R10 g10 ⟨by unfold sealP; omega, by unfold sealP; omega, by unfold sealP; omega⟩ yy
  have y105 : y10 5 t = y 5 t := hy10 5 t (by omega) (by omega) (by omega)
  have q8 := X10.2.2.2
  rw [yy 8] at q8
  refine sL_of q8 (j := 11) rfl (by omega) (by omega) ?_
  obtain ⟨X11, g11⟩ := X10.gs 11 r3.toInt64
  have pk11 : ∀ q f, xh_at h10 q (.inr (6, f)) → xh_at (xh_set h10 (y10 0 8) (.inl (E.1 1, 12, .inr (.inl (vp_updL _ 11 r3.toInt64))))) q (.inr (6, f)) := fun q f hq => X10.g1 hq 11 r3.toInt64
  rw [yy 8] at X11 g11 pk11
  obtain ⟨wd11, x11, -⟩ := X11.1.term (t := t) (by omega)
  rw [y105] at x11
  have X12 := X11.eqv (s' := sM) hv
  have wl := X12.world
  rw [yy 1] at wl
  have e01 : y10 0 1 = y 0 1 := yy 1
  refine gR_of x11 (by show (termL y10 t _ _ _ _ _ _ _ _ _ _ _)[0]? = some (.ref (y 0 1)); rw [← e01]; rfl) (gI_of x11 rfl (nN_of (isO_of wl (cK_of (Fc n3 - Fc n4) (Fs n3 cp3 - Fs n4 cp3) (by omega) (by omega) ?_))))
  have hk' : 1 ≤ k ∧ k < 12 := by omega
  have := s_snd (k := k) (kc := Fc n3 - Fc n4) (ks := Fs n3 cp3 - Fs n4 cp3) (Q := fun x67 h68 => (x67 = 0 ∨ x67 = 1) ∧ Q x67 h68) X12.1 w3.sz hk' X12.2.2.2 (v := v) (fun q q1 q2 hq => ?_) hS4 (by omega) (by omega) (fun h13 y13 R13 g13 hy13 => ⟨hS4.sc.2.2.2.2, hQ h13 y13 R13 (fun k j a1 a2 a3 a4 a5 => (hy13 k j a1 a2).trans (hy10 k j a3 a4 a5)) (fun q f hq => X12.1.pay g13 (pk11 q f (X9.1.pay g10 (X7.1.pay S8.2.1 (pk7 q f hq))))) ?_ ?_ ?_ ?_⟩)
  · rw [e01] at this; exact this
  · rcases hk with rfl | rfl
    · rcases tg7 q q2 (Or.inl hq) with rfl | rfl | rfl | rfl | rfl | rfl | rfl | rfl
      · rw [v1]; simp [vp_updL]
      · rw [v2]; simp [vp_updL]
      · rw [v3]; simp [vp_updL]
      · rw [v4]; simp [vp_updL]
      · rw [v5]; simp [vp_updL]
      · rw [v6]; simp [vp_updL]
      · rw [v8]; simp [vp_updL]
      · rw [v11]; simp [vp_updL]
    · rcases tg7 q q2 (Or.inr hq) with rfl | rfl | rfl | rfl | rfl | rfl | rfl | rfl
      · rw [v1]; simp [vp_updL]
      · rw [v2]; simp [vp_updL]
      · rw [v3]; simp [vp_updL]
      · rw [v4]; simp [vp_updL]
      · rw [v5]; simp [vp_updL]
      · rw [v6]; simp [vp_updL]
      · rw [v8]; simp [vp_updL]
      · rw [v11]; simp [vp_updL]
  · intro e he
    have e1 : e = .inr (3, [.int kd, .int fs, .int fr, .ref (y 0 7)]) := he.2.symm.trans X.2.1.2
    subst e1
    have := YS.k X12.1.1 g13 (k := 0) (j := 5) (lyc (by omega)) (by unfold sendP; omega) X12.2.1
    rw [yy 5, yy 7] at this
    exact this
  · intro e he
    have e1 : e = .inl (E.1 1, 12, .inr (.inl cf)) := he.2.symm.trans X.2.2.1.2
    subst e1
    have := YS.k X12.1.1 g13 (k := 0) (j := 7) (lyc (by omega)) (by unfold sendP; omega) X12.2.2.1
    rw [yy 7] at this
    exact this
  · have := YS.k X12.1.1 g13 (k := 0) (j := 8) (lyc (by omega)) (by unfold sendP; omega) X12.2.2.2
    rw [yy 8] at this
    exact ⟨_, this⟩
  · exact gg7.tr ((YS.a X7.1.1 S8.2.1).tr ((YS.a X9.1.1 g10).tr (g11.tr (YS.a X12.1.1 g13))))
end THOST
