/-! the host: whose message it is -/
section SIGNED
variable {E : Ev} {A S : Nat → Prop} {h h' : Hp} {y y' : Nat → Nat → Nat} {s s' s1 : MS} {n cp n' cp' : Nat → Nat} {kd fs fr : Int32} {cf gf v : Nat → Int64} {i u c : Nat} {r : Int32}
theorem isg_step {l : List Int64} (m : Nat) (s : MS) {j : Nat} (hj : j ≤ 8) (h7 : j ≠ 7) (hl : l.length < 12) : M_isSigned_L8 (m + 1) (rowS s l) (nI j) = M_isSigned_L8 m (rowS s (l ++ [s.2.2.2 17 j])) (nI (j + 1)) := by
  rw [M_isSigned_L8]
  rw [if_neg (show ¬ (8 : Int32) < nI j from nI_nlt (a := 8) (b := j) hj (by omega)), if_neg (show ¬ nI j = 7 from fun e => h7 ((nI_eq (b := 7) (by omega) (by omega)).mp e)), if_neg (nI_in (by omega) (by omega)), nI_clamp (by omega), rowS_17, M_more_eq _ _ hl]
  unfold M_isSigned_L30
  rw [nI_1]
  rfl
theorem isg_7 (m : Nat) (s : MS) : M_isSigned_L8 (m + 1) s (nI 7) = M_isSigned_L8 m s (nI 8) := by
  rw [M_isSigned_L8]
  rw [if_neg (show ¬ (8 : Int32) < nI 7 by decide), if_pos (show nI 7 = 7 from rfl)]
  unfold M_isSigned_L30
  rfl
theorem isg_9 (m : Nat) (s : MS) : M_isSigned_L8 (m + 1) s (nI 9) = if 0 ≤ lg_cmp (s.2.2.2 17 5) ((s.1 36).toInt64) then some (0, s) else (M_isGood s 1 (s.2.2.2 17 5) (s.2.2.2 17 11)).bind fun px => if px.1 = 0 then some (0, px.2) else some (1, px.2) := by
  rw [M_isSigned_L8]
  rw [if_pos (show (8 : Int32) < nI 9 by decide)]
  dsimp only [lt1]
  simp only [tC5, tB5, tC11, tB11, if_false]
theorem M_isSigned_eq (s : MS) (k : Nat) : M_isSigned s (nI k) = if 0 ≤ lg_cmp (s.2.2.2 17 5) ((s.1 36).toInt64) then some (0, rowS s (sgL k (s.2.2.2 17))) else (M_isGood (rowS s (sgL k (s.2.2.2 17))) 1 (s.2.2.2 17 5) (s.2.2.2 17 11)).bind fun px => if px.1 = 0 then some (0, px.2) else some (1, px.2) := by
  unfold M_isSigned
  obtain ⟨m, hm⟩ : ∃ m, mfu = m + 1 + 1 + 1 + 1 + 1 + 1 + 1 + 1 + 1 := ⟨8183, by unfold mfu; omega⟩
  rw [M_begin_eq, hm, Option.bind_some]
  show M_isSigned_L8 (m + 1 + 1 + 1 + 1 + 1 + 1 + 1 + 1 + 1) (rowS s [(nI k).toInt64]) (nI 1) = _
  rw [isg_step _ s (j := 1) (by omega) (by omega) (by simp), isg_step _ s (j := 2) (by omega) (by omega) (by simp), isg_step _ s (j := 3) (by omega) (by omega) (by simp), isg_step _ s (j := 4) (by omega) (by omega) (by simp), isg_step _ s (j := 5) (by omega) (by omega) (by simp), isg_step _ s (j := 6) (by omega) (by omega) (by simp), isg_7, isg_step _ s (j := 8) (by omega) (by omega) (by simp), isg_9]
  rfl
def anL (a : Int32) (g : Nat → Int64) : List Int64 := [6, a.toInt64, g 3, g 4, g 5, g 2, g 6]
theorem M_isAnswer_eq (s : MS) (a : Int32) : M_isAnswer s a = if 0 ≤ lg_cmp (s.2.2.2 17 1) ((s.1 21).toInt64) then some (0, rowS s (anL a (s.2.2.2 17))) else (M_isGood (rowS s (anL a (s.2.2.2 17))) 0 (s.2.2.2 17 1) (s.2.2.2 17 8)).bind fun px => if px.1 = 0 then some (0, px.2) else some (1, px.2) := by
  unfold M_isAnswer
  dsimp only [lt1]
  simp only [tC1, tC2, tC3, tC4, tC5, tC6, tC8, tB1, tB2, tB3, tB4, tB5, tB6, tB8, if_false]
  rw [M_begin_eq, Option.bind_some, M_more_eq _ _ (by simp), Option.bind_some, M_more_eq _ _ (by simp), Option.bind_some, M_more_eq _ _ (by simp), Option.bind_some, M_more_eq _ _ (by simp), Option.bind_some, M_more_eq _ _ (by simp), Option.bind_some, M_more_eq _ _ (by simp), Option.bind_some]
  rfl
theorem M_isSigned_spec {k q5 : Nat} {P : Int32 → MS → Prop} (w : W2 i u s n) (hu : u < 2000) (f5 : s.2.2.2 17 5 = (nI q5).toInt64) (hq : q5 < 65536) (f11 : s.2.2.2 17 11 = cf 11) (h1 : q5 < n 1 → Good (rowS s (sgL k (s.2.2.2 17))) (nI (256 * 1 + q5)) 8 (fun i => (sgL k (s.2.2.2 17)).getD i 0) (n 4) (cf 11) → P 1 (rowS s (sgL k (s.2.2.2 17)))) (h0 : ¬ (q5 < n 1 ∧ Good (rowS s (sgL k (s.2.2.2 17))) (nI (256 * 1 + q5)) 8 (fun i => (sgL k (s.2.2.2 17)).getD i 0) (n 4) (cf 11)) → P 0 (rowS s (sgL k (s.2.2.2 17)))) : Mw (M_isSigned s (nI k)) P := by
  have hn1 := w.1.2.1.2
  have hn4 : n 4 ≤ u := by have := w.1.2.2.2.2.1.2; omega
  have wr := w.eqv (s1 := rowS s (sgL k (s.2.2.2 17))) (vis_row _ _)
  have h36 : s.1 36 = nI (n 1) := w.1.2.1.1
  rw [M_isSigned_eq, f11, h36]
  by_cases c1 : q5 < n 1
  rotate_left
  · rw [if_pos (by rw [f5]; exact (lg_ge_n (by omega) (by omega)).mpr (by omega))]
    exact Mw.r (h0 (fun z => c1 z.1))
  rw [if_neg (by rw [f5]; exact fun z => absurd ((lg_ge_n (by omega) (by omega)).mp z) (by omega))]
  refine Mw.b ?_
  obtain ⟨hy1, hy0⟩ := M_good_row (rowS_l s (sgL k (s.2.2.2 17))) (by simp [sgL]) wr.1.2.2.2.2.1.1 (by omega) wr.2.2.2.2.2.2.2.1 1 (s.2.2.2 17 5) (cf 11)
  rw [show (256 : Int32) * 1 + (s.2.2.2 17 5).toInt32 = nI (256 * 1 + q5) from by rw [f5]; exact keyc 1 q5] at hy1 hy0
  by_cases hg : Good (rowS s (sgL k (s.2.2.2 17))) (nI (256 * 1 + q5)) 8 (fun i => (sgL k (s.2.2.2 17)).getD i 0) (n 4) (cf 11)
  · exact Mw.e (hy1 hg) (Mw.no (show ¬ (1 : Int32) = 0 by decide) (Mw.r (h1 c1 hg)))
  · exact Mw.e (hy0 hg) (Mw.y rfl (Mw.r (h0 (fun z => hg z.2))))
theorem M_isAnswer_spec {q1 : Nat} {a : Int32} {P : Int32 → MS → Prop} (w : W2 i u s n) (hu : u < 2000) (f1 : s.2.2.2 17 1 = (nI q1).toInt64) (hq : q1 < 65536) (f8 : s.2.2.2 17 8 = cf 8) (h1 : q1 < n 0 → Good (rowS s (anL a (s.2.2.2 17))) (nI (256 * 0 + q1)) 7 (fun i => (anL a (s.2.2.2 17)).getD i 0) (n 4) (cf 8) → P 1 (rowS s (anL a (s.2.2.2 17)))) (h0 : ¬ (q1 < n 0 ∧ Good (rowS s (anL a (s.2.2.2 17))) (nI (256 * 0 + q1)) 7 (fun i => (anL a (s.2.2.2 17)).getD i 0) (n 4) (cf 8)) → P 0 (rowS s (anL a (s.2.2.2 17)))) : Mw (M_isAnswer s a) P := by
  have hn0 := w.1.1.2
  have hn4 : n 4 ≤ u := by have := w.1.2.2.2.2.1.2; omega
  have wr := w.eqv (s1 := rowS s (anL a (s.2.2.2 17))) (vis_row _ _)
  have h21 : s.1 21 = nI (n 0) := w.1.1.1
  rw [M_isAnswer_eq, f8, h21]
  by_cases c1 : q1 < n 0
  rotate_left
  · rw [if_pos (by rw [f1]; exact (lg_ge_n (by omega) (by omega)).mpr (by omega))]
    exact Mw.r (h0 (fun z => c1 z.1))
  rw [if_neg (by rw [f1]; exact fun z => absurd ((lg_ge_n (by omega) (by omega)).mp z) (by omega))]
  refine Mw.b ?_
  obtain ⟨hy1, hy0⟩ := M_good_row (rowS_l s (anL a (s.2.2.2 17))) (by simp [anL]) wr.1.2.2.2.2.1.1 (by omega) wr.2.2.2.2.2.2.2.1 0 (s.2.2.2 17 1) (cf 8)
  rw [show (256 : Int32) * 0 + (s.2.2.2 17 1).toInt32 = nI (256 * 0 + q1) from by rw [f1]; exact keyc 0 q1] at hy1 hy0
  by_cases hg : Good (rowS s (anL a (s.2.2.2 17))) (nI (256 * 0 + q1)) 7 (fun i => (anL a (s.2.2.2 17)).getD i 0) (n 4) (cf 8)
  · exact Mw.e (hy1 hg) (Mw.no (show ¬ (1 : Int32) = 0 by decide) (Mw.r (h1 c1 hg)))
  · exact Mw.e (hy0 hg) (Mw.y rfl (Mw.r (h0 (fun z => hg z.2))))
/-- paymentOf -/
theorem s_payOf {q1 q2 q5 q6 : Nat} {ans : Int32} {kc ks : Nat} {Q : Option Nat → Hp → Prop} (X : CX E A h y s n cp kd fs fr cf gf) (e1 : cf 1 = (nI q1).toInt64) (e2 : cf 2 = (nI q2).toInt64) (e5 : cf 5 = (nI q5).toInt64) (e6 : cf 6 = (nI q6).toInt64) (k1 : 1 ≤ kc) (k2 : 8 ≤ ks)
    (hQ : ∀ h' p, CX E A h' y s n cp kd fs fr cf gf → PAY h' p (nI q1) (nI q2) (cf 3) (cf 4) (nI q5) (nI q6) ans (cf 8) → A p → (∀ t', t' < n 1 → p ≠ y 6 t') → xg A h h' → Q (some p) h') : m_X3_paymentOf E (some (y 0 5)) ans h kc ks Q := by
  have R := X.1
  have z1 : (cf 1).toInt32 = nI q1 := by rw [e1, Int32.toInt32_toInt64]
  have z2 : (cf 2).toInt32 = nI q2 := by rw [e2, Int32.toInt32_toInt64]
  have z5 : (cf 5).toInt32 = nI q5 := by rw [e5, Int32.toInt32_toInt64]
  have z6 : (cf 6).toInt32 = nI q6 := by rw [e6, Int32.toInt32_toInt64]
  refine ⟨kc - 1, ks - 8, by omega, by omega, fun p h1 hp e1' => ?_⟩
  have pp : xh_at h1 p (.inr (6, [.int 0, .int 0, .long 0, .long 0, .int 0, .int 0, .int 0, .long 0])) := by rw [e1']; exact xh_at.newq
  have g0 : xg (fun _ => False) h h1 := by rw [e1']; exact xg.new hp
  have c5 := g0.at X.2.1 (fun z => z)
  have c7 := g0.at X.2.2.1 (fun z => z)
  have n5 : y 0 5 ≠ p := X.2.1.fresh hp
  have n7 : y 0 7 ≠ p := X.2.2.1.fresh hp
  refine nN_of (isO_of c5 (gR_of c5 rfl (nN_of (aL_of c7 (j := 1) rfl (by omega) (by omega) rfl (pV_of pp (by show 0 < 8; decide) ?_)))))
  refine isO_of (c5.ne n5) (gR_of (c5.ne n5) rfl (nN_of (aL_of (c7.ne n7) (j := 2) rfl (by omega) (by omega) rfl (pV_of pp.set (by show 1 < 8; decide) ?_))))
  refine gR_of ((c5.ne n5).ne n5) rfl (nN_of (aL_of ((c7.ne n7).ne n7) (j := 3) rfl (by omega) (by omega) rfl (pV_of pp.set.set (by show 2 < 8; decide) ?_)))
  refine gR_of (((c5.ne n5).ne n5).ne n5) rfl (nN_of (aL_of (((c7.ne n7).ne n7).ne n7) (j := 4) rfl (by omega) (by omega) rfl (pV_of pp.set.set.set (by show 3 < 8; decide) ?_)))
  refine isO_of ((((c5.ne n5).ne n5).ne n5).ne n5) (gR_of ((((c5.ne n5).ne n5).ne n5).ne n5) rfl (nN_of (aL_of ((((c7.ne n7).ne n7).ne n7).ne n7) (j := 5) rfl (by omega) (by omega) rfl (pV_of pp.set.set.set.set (by show 4 < 8; decide) ?_))))
  refine isO_of (((((c5.ne n5).ne n5).ne n5).ne n5).ne n5) (gR_of (((((c5.ne n5).ne n5).ne n5).ne n5).ne n5) rfl (nN_of (aL_of (((((c7.ne n7).ne n7).ne n7).ne n7).ne n7) (j := 6) rfl (by omega) (by omega) rfl (pV_of pp.set.set.set.set.set (by show 5 < 8; decide) (pV_of pp.set.set.set.set.set.set (by show 6 < 8; decide) ?_)))))
  refine gR_of (((((((c5.ne n5).ne n5).ne n5).ne n5).ne n5).ne n5).ne n5) rfl (nN_of (aL_of (((((((c7.ne n7).ne n7).ne n7).ne n7).ne n7).ne n7).ne n7) (j := 8) rfl (by omega) (by omega) rfl (pV_of pp.set.set.set.set.set.set.set (by show 7 < 8; decide) ?_)))
  rw [z1, z2, z5, z6]
  have g9 := (((((((g0.setn (e := .inr (6, [.int (nI q1), .int 0, .long 0, .long 0, .int 0, .int 0, .int 0, .long 0])) hp).setn (e := .inr (6, [.int (nI q1), .int (nI q2), .long 0, .long 0, .int 0, .int 0, .int 0, .long 0])) hp).setn (e := .inr (6, [.int (nI q1), .int (nI q2), .long (cf 3), .long 0, .int 0, .int 0, .int 0, .long 0])) hp).setn (e := .inr (6, [.int (nI q1), .int (nI q2), .long (cf 3), .long (cf 4), .int 0, .int 0, .int 0, .long 0])) hp).setn (e := .inr (6, [.int (nI q1), .int (nI q2), .long (cf 3), .long (cf 4), .int (nI q5), .int 0, .int 0, .long 0])) hp).setn (e := .inr (6, [.int (nI q1), .int (nI q2), .long (cf 3), .long (cf 4), .int (nI q5), .int (nI q6), .int 0, .long 0])) hp).setn (e := .inr (6, [.int (nI q1), .int (nI q2), .long (cf 3), .long (cf 4), .int (nI q5), .int (nI q6), .int ans, .long 0])) hp).setn (e := .inr (6, [.int (nI q1), .int (nI q2), .long (cf 3), .long (cf 4), .int (nI q5), .int (nI q6), .int ans, .long (cf 8)])) hp
  have p9 : PAY _ p (nI q1) (nI q2) (cf 3) (cf 4) (nI q5) (nI q6) ans (cf 8) := (((((((pp.set (e' := .inr (6, [.int (nI q1), .int 0, .long 0, .long 0, .int 0, .int 0, .int 0, .long 0]))).set (e' := .inr (6, [.int (nI q1), .int (nI q2), .long 0, .long 0, .int 0, .int 0, .int 0, .long 0]))).set (e' := .inr (6, [.int (nI q1), .int (nI q2), .long (cf 3), .long 0, .int 0, .int 0, .int 0, .long 0]))).set (e' := .inr (6, [.int (nI q1), .int (nI q2), .long (cf 3), .long (cf 4), .int 0, .int 0, .int 0, .long 0]))).set (e' := .inr (6, [.int (nI q1), .int (nI q2), .long (cf 3), .long (cf 4), .int (nI q5), .int 0, .int 0, .long 0]))).set (e' := .inr (6, [.int (nI q1), .int (nI q2), .long (cf 3), .long (cf 4), .int (nI q5), .int (nI q6), .int 0, .long 0]))).set (e' := .inr (6, [.int (nI q1), .int (nI q2), .long (cf 3), .long (cf 4), .int (nI q5), .int (nI q6), .int ans, .long 0]))).set (e' := .inr (6, [.int (nI q1), .int (nI q2), .long (cf 3), .long (cf 4), .int (nI q5), .int (nI q6), .int ans, .long (cf 8)]))
  refine hQ _ p ⟨X.1.k ⟨g9.1, fun a ha _ => g9.2 a ha (fun z => z)⟩, g9.at X.2.1 (fun z => z), g9.at X.2.2.1 (fun z => z), g9.at X.2.2.2 (fun z => z)⟩ p9 (R.1.1 p hp) (fun t' ht' e => ?_) (g9.mono (fun _ _ z => z.elim))
  obtain ⟨wd, t1, t2, cc, k, am, un, tt, w, a, sl, e1', e2⟩ := R.2.2.2.2.2.2.1 t' ht'
  exact hp (by rw [e]; exact e1'.1)
/-- isFromTerminal -/
theorem s_isFrom {q5 p k : Nat} {c k0 w0 a0 : Int32} {am un sl : Int64} {l : List Int64} {kc ks : Nat} {Q : Int32 → Hp → Prop} (X : CX E A h y s n cp (nI k) fs fr cf gf) (ap : PAY h p c k0 am un (nI q5) w0 a0 sl) (hq : q5 < 65536) (hl : l = [(nI k).toInt64, c.toInt64, k0.toInt64, am, un, (nI q5).toInt64, w0.toInt64, sl]) (hv : vis s1 = vis s)
    (h1 : q5 < n 1 → Good s1 (nI (256 * 1 + q5)) 8 (fun i => l.getD i 0) (n 4) (cf 11) → ∀ h', CX E A h' y s n cp (nI k) fs fr cf gf → PAY h' p c k0 am un (nI q5) w0 a0 sl → xg A h h' → Q 1 h') (h0 : ¬ (q5 < n 1 ∧ Good s1 (nI (256 * 1 + q5)) 8 (fun i => l.getD i 0) (n 4) (cf 11)) → ∀ h', CX E A h' y s n cp (nI k) fs fr cf gf → xg A h h' → Q 0 h') : m_X3_isFromTerminal E (y 0 2) (some (y 0 5)) (some p) h kc ks Q := by
  have hn1 := X.1.2.1.2.1.2
  have hll : l.length = 8 := by rw [hl]; rfl
  refine gR_of X.host rfl (nN_of (gI_of ap rfl (nN_of (isO_of X.world (s_isTerminal X.1 (fun q => ?_) (fun j hj e => ?_))))))
  · refine ⟨fun _ => h0 (fun z => ?_) h X xg.rf, fun z => absurd rfl z⟩
    rcases q with q | q
    · exact nI_pos (by omega) q
    · exact absurd ((nI_leI (by omega) (by omega)).mp q) (by omega)
  have e' : q5 = j := (nI_eq (by omega) (by omega)).mp e
  subst e'
  obtain ⟨-, -, -, -, -, ⟨u0, u1, u2, f5⟩, -⟩ := id X.1.2.2.1
  refine ⟨fun z => absurd z (by decide), fun _ => gR_of X.host rfl (nN_of (gR_of X.world rfl (nN_of (gI_of X.2.1 rfl (nN_of (isO_of f5 (s_ofTerminal X.1 ap (fun h2 S2 => ?_))))))))⟩
  have X2 : CX E A h2 y s n cp (nI k) fs fr cf gf := X.ys S2.1 S2.2.1 ⟨by unfold rowP; omega, by unfold rowP; omega, by unfold rowP; omega⟩ (fun _ => rfl)
  have ap2 : PAY h2 p c k0 am un (nI q5) w0 a0 sl := X.1.pay S2.2.1 ap
  have S3 := S2.re (s' := s1) (l' := l) hv hl
  obtain ⟨-, -, -, -, -, ⟨z0, z1, z2, f5'⟩, -⟩ := id X2.1.2.2.1
  refine gR_of X2.2.1 rfl (nN_of (aL_of X2.2.2.1 (j := 11) rfl (by omega) (by omega) rfl (nN_of (isO_of f5' (s_isGood S3 (by omega) (by omega) (by omega) (fun hg => ?_) (fun hg => ?_))))))
  · rw [hll] at hg
    exact ⟨fun z => absurd z (by decide), fun _ => h1 hj hg h2 X2 ap2 (YS.a X.1.1 S2.2.1)⟩
  · rw [hll] at hg
    exact ⟨fun _ => h0 (fun z => hg z.2) h2 X2 (YS.a X.1.1 S2.2.1), fun z => absurd rfl z⟩
/-- isAnswerOfCard -/
theorem s_isAns {q1 p : Nat} {k0 t0 w0 a0 : Int32} {am un sl : Int64} {l : List Int64} {kc ks : Nat} {Q : Int32 → Hp → Prop} (X : CX E A h y s n cp kd fs fr cf gf) (ap : PAY h p (nI q1) k0 am un t0 w0 a0 sl) (hq : q1 < 65536) (hl : l = [6, a0.toInt64, am, un, t0.toInt64, k0.toInt64, w0.toInt64]) (hv : vis s1 = vis s)
    (h1 : q1 < n 0 → Good s1 (nI (256 * 0 + q1)) 7 (fun i => l.getD i 0) (n 4) sl → ∀ h', CX E A h' y s n cp kd fs fr cf gf → PAY h' p (nI q1) k0 am un t0 w0 a0 sl → xg A h h' → Q 1 h') (h0 : ¬ (q1 < n 0 ∧ Good s1 (nI (256 * 0 + q1)) 7 (fun i => l.getD i 0) (n 4) sl) → ∀ h', CX E A h' y s n cp kd fs fr cf gf → PAY h' p (nI q1) k0 am un t0 w0 a0 sl → xg A h h' → Q 0 h') : m_X3_isAnswerOfCard E (y 0 2) (some p) h kc ks Q := by
  have hn0 := X.1.2.1.1.2
  have hll : l.length = 7 := by rw [hl]; rfl
  have l5 := X.1.2.2.2.1.2.2.2.2.2.1
  refine nN_of (gI_of ap rfl (gR_of X.host rfl (nN_of (l5.isO (s_size l5 ⟨fun q => ?_, fun q => ?_⟩)))))
  · have := (nI_leI (by omega) (by omega)).mp q
    exact h0 (fun z => by omega) h X ap xg.rf
  have hj : q1 < n 0 := by
    refine Nat.lt_of_not_le (fun z => q ((nI_leI (by omega) (by omega)).mpr z))
  obtain ⟨-, -, -, -, -, ⟨u0, u1, u2, f5⟩, -⟩ := id X.1.2.2.1
  refine gR_of X.host rfl (nN_of (gR_of X.world rfl (nN_of (isO_of f5 (s_ofAnswer X.1 ap (fun h2 S2 => ?_))))))
  have X2 : CX E A h2 y s n cp kd fs fr cf gf := X.ys S2.1 S2.2.1 ⟨by unfold rowP; omega, by unfold rowP; omega, by unfold rowP; omega⟩ (fun _ => rfl)
  have ap2 : PAY h2 p (nI q1) k0 am un t0 w0 a0 sl := X.1.pay S2.2.1 ap
  have S3 := S2.re (s' := s1) (l' := l) hv hl
  obtain ⟨-, -, -, -, -, ⟨z0, z1, z2, f5'⟩, -⟩ := id X2.1.2.2.1
  refine gL_of ap2 rfl (nN_of (isO_of f5' (s_isGood S3 (by omega) (by omega) (by omega) (fun hg => ?_) (fun hg => ?_))))
  · rw [hll] at hg
    exact ⟨fun z => absurd z (by decide), fun _ => h1 hj hg h2 X2 ap2 (YS.a X.1.1 S2.2.1)⟩
  · rw [hll] at hg
    exact ⟨fun _ => h0 (fun z => hg z.2) h2 X2 ap2 (YS.a X.1.1 S2.2.1), fun z => absurd rfl z⟩
end SIGNED
