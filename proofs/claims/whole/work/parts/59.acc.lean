/-! the host: accounts and debits -/
section ACC
variable {E : Ev} {A S : Nat → Prop} {h h' : Hp} {y y' : Nat → Nat → Nat} {s s' : MS} {n cp n' cp' : Nat → Nat} {kd fs fr : Int32} {cf gf v : Nat → Int64} {i u c : Nat} {r : Int32}
theorem RXo.acc {x25 : Int64} {x26 : Int32} (R : RXo E A h y s n cp) (hc : c < n 0) (g : xg (fun a => a = y 9 c) h h')
    (hv : cdv s' c = (s.2.2.1 22 c, s.2.2.2 23 c, s.2.2.1 24 c, s.2.2.1 27 c, s.2.2.1 28 c, s.2.2.1 29 c, s.2.2.1 30 c, s.2.2.1 35 c, s.2.2.1 31 c, s.2.2.2 32 c, s.2.2.2 33 c, s.2.2.2 34 c, x25, x26)) (hx : xh_at h' (y 9 c) (.inr (1, [.long x25, .int x26])))
    (hO : visO s' = visO s) (hT : visT s' = visT s) (hC : ∀ j, j ≠ c → cdv s' j = cdv s j) : RXo E A h' y s' n cp ∧ xg A h h' := by
  obtain ⟨Ra, Rn, Rf, Rl, Rm, Rc, Rt, Rs, Rp⟩ := id R
  have hl : lyv n cp 9 c := ly9 hc
  obtain ⟨-, -, c3⟩ := Rc c hc
  have hPn : ∀ a fs, xh_at h a (.inr (6, fs)) → ¬ a = y 9 c := nP_obj c3 (by decide)
  have ho : ∀ a, xo_at h a → xo_at h' a := by
    intro a ⟨ci, fs, q1, q2⟩
    by_cases z : a = y 9 c
    · subst z; exact ⟨1, _, by omega, hx⟩
    · exact ⟨ci, fs, q1, g.at q2 z⟩
  have no : ∀ {k j}, lyv n cp k j → (k ≠ 9 ∨ j ≠ c) → ¬ y k j = y 9 c := fun hl' hn => Ra.ne hl' hl hn
  refine ⟨⟨Ra.g g, Rn.o hO, ?_, ?_, ?_, ?_, ?_, ?_, ?_⟩, g.mono (fun x _ z => by rw [z]; exact Ra.2.1 9 c hl)⟩
  · exact (Rf.g g (fun k hk => no (ly0 hk) (by omega))).o hO
  · exact (Rl.g g ho (fun k h1 h2 => no (ly0 h2) (by omega)) (fun k h1 h2 h3 => no (ly15 h1 h2 h3) (by omega)) (fun t ht => no (ly7 ht) (by omega)) (fun t ht hc' => no (ly8 ht hc') (by omega))).o hO
  · exact (Rm.g g (fun k hk => no (ly1 hk) (by omega)) (fun k hk => no (ly2 hk) (by omega))).o hO
  · intro j hj
    obtain ⟨d1, ⟨cc, k, am, un, t, w, a, sl, e1, e2⟩, d3⟩ := Rc j hj
    by_cases z : j = c
    · subst z
      have v := hv
      unfold cdv at v
      simp only [Prod.mk.injEq] at v
      obtain ⟨v1, v2, v3, v4, v5, v6, v7, v8, v9, v10, v11, v12, v13, v14⟩ := v
      refine ⟨?_, ⟨cc, k, am, un, t, w, a, sl, g.at e1 (hPn _ _ e1), ?_⟩, ?_⟩
      · rw [v1, v2, v3, v4, v5, v6, v7, v8, v9]
        exact g.at d1 (no (ly3 hj) (by omega))
      · rw [v7, v4, v10, v11, v12]; exact e2
      · rw [v13, v14]; exact hx
    · have v := hC j z
      unfold cdv at v
      simp only [Prod.mk.injEq] at v
      obtain ⟨v1, v2, v3, v4, v5, v6, v7, v8, v9, v10, v11, v12, v13, v14⟩ := v
      refine ⟨?_, ⟨cc, k, am, un, t, w, a, sl, g.at e1 (hPn _ _ e1), ?_⟩, ?_⟩
      · rw [v1, v2, v3, v4, v5, v6, v7, v8, v9]
        exact g.at d1 (no (ly3 hj) (by omega))
      · rw [v7, v4, v10, v11, v12]; exact e2
      · rw [v13, v14]
        exact g.at d3 (no (ly9 hj) (by omega))
  · exact (Rt.g g (fun k hk => no (ly5 hk) (by omega)) hPn).o hT
  · exact (Rs.g g (fun k hk => no (ly10 hk) (by omega)) (fun k hk => no (ly11 hk) (by omega))).o hO
  · exact (Rp.g g hPn).o hO
theorem CX.acc {x25 : Int64} {x26 : Int32} (X : CX E A h y s n cp kd fs fr cf gf) (hc : c < n 0) (g : xg (fun a => a = y 9 c) h h')
    (hv : cdv s' c = (s.2.2.1 22 c, s.2.2.2 23 c, s.2.2.1 24 c, s.2.2.1 27 c, s.2.2.1 28 c, s.2.2.1 29 c, s.2.2.1 30 c, s.2.2.1 35 c, s.2.2.1 31 c, s.2.2.2 32 c, s.2.2.2 33 c, s.2.2.2 34 c, x25, x26)) (hx : xh_at h' (y 9 c) (.inr (1, [.long x25, .int x26])))
    (hO : visO s' = visO s) (hT : visT s' = visT s) (hC : ∀ j, j ≠ c → cdv s' j = cdv s j) : CX E A h' y s' n cp kd fs fr cf gf ∧ xg A h h' := by
  obtain ⟨R', gA⟩ := X.1.acc hc g hv hx hO hT hC
  have no : ∀ j, j ≤ 18 → ¬ y 0 j = y 9 c := fun j hj => X.1.1.ne (lyc hj) (ly9 hc) (by omega)
  exact ⟨X.nx R' g (no 5 (by omega)) (no 7 (by omega)) (no 8 (by omega)) (fun j => rfl), gA⟩
theorem CX.account (X : CX E A h y s n cp kd fs fr cf gf) (hc : c < n 0) : xh_at h (y 9 c) (.inr (1, [.long (s.2.2.2 25 c), .int (s.2.2.1 26 c)])) := (X.1.2.2.2.2.2.1 c hc).2.2
theorem CX.host (X : CX E A h y s n cp kd fs fr cf gf) : xh_at h (y 0 2) (.inr (4, [.ref (y 0 1), .ref (y 0 17), .ref (y 0 18)])) := X.1.2.2.1.2.2.1
theorem mL62_17 (s : MS) (j : Nat) (v : Int64) : (mL s 62 j v).2.2.2 17 = s.2.2.2 17 := rfl
theorem mL25_17 (s : MS) (j : Nat) (v : Int64) : (mL s 25 j v).2.2.2 17 = s.2.2.2 17 := rfl
theorem M_debit_eq {q1 q2 q5 q6 : Nat} {a : Int32} (f1 : s.2.2.2 17 1 = (nI q1).toInt64) (f2 : s.2.2.2 17 2 = (nI q2).toInt64) (f3 : s.2.2.2 17 3 = cf 3) (f4 : s.2.2.2 17 4 = cf 4) (f5 : s.2.2.2 17 5 = (nI q5).toInt64) (f6 : s.2.2.2 17 6 = (nI q6).toInt64) (h1 : q1 < 16) (h61 : s.1 61 = nI (n 3)) (h3 : n 3 < 512) :
    M_debit_I s a = some (debS (mL s 25 q1 (s.2.2.2 25 q1 - cf 3)) n (nI q1) (nI q2) (cf 3) (cf 4) (nI q5) (nI q6) a) := by
  have cc : (nI q1).toNatClampNeg = q1 := nI_clamp (by omega)
  have cb : (nI q1 < 0 ∨ 16 ≤ q1) = False := ixF (by omega) (by omega)
  have i0 : (7 : Int32) * nI (n 3) = nI (7 * n 3) := pk_mul 7 _
  have i1 : nI (7 * n 3) + 1 = nI (7 * n 3 + 1) := nI_1 _
  have i2 : nI (7 * n 3) + 2 = nI (7 * n 3 + 2) := nI_add _ 2
  have i3 : nI (7 * n 3) + 3 = nI (7 * n 3 + 3) := nI_add _ 3
  have i4 : nI (7 * n 3) + 4 = nI (7 * n 3 + 4) := nI_add _ 4
  have i5 : nI (7 * n 3) + 5 = nI (7 * n 3 + 5) := nI_add _ 5
  have i6 : nI (7 * n 3) + 6 = nI (7 * n 3 + 6) := nI_add _ 6
  have j0 : (nI (7 * n 3)).toNatClampNeg = 7 * n 3 := nI_clamp (by omega)
  have j1 : (nI (7 * n 3 + 1)).toNatClampNeg = 7 * n 3 + 1 := nI_clamp (by omega)
  have j2 : (nI (7 * n 3 + 2)).toNatClampNeg = 7 * n 3 + 2 := nI_clamp (by omega)
  have j3 : (nI (7 * n 3 + 3)).toNatClampNeg = 7 * n 3 + 3 := nI_clamp (by omega)
  have j4 : (nI (7 * n 3 + 4)).toNatClampNeg = 7 * n 3 + 4 := nI_clamp (by omega)
  have j5 : (nI (7 * n 3 + 5)).toNatClampNeg = 7 * n 3 + 5 := nI_clamp (by omega)
  have j6 : (nI (7 * n 3 + 6)).toNatClampNeg = 7 * n 3 + 6 := nI_clamp (by omega)
  have b0 : (nI (7 * n 3) < 0 ∨ 4200 ≤ 7 * n 3) = False := ixF (by omega) (by omega)
  have b1 : (nI (7 * n 3 + 1) < 0 ∨ 4200 ≤ 7 * n 3 + 1) = False := ixF (by omega) (by omega)
  have b2 : (nI (7 * n 3 + 2) < 0 ∨ 4200 ≤ 7 * n 3 + 2) = False := ixF (by omega) (by omega)
  have b3 : (nI (7 * n 3 + 3) < 0 ∨ 4200 ≤ 7 * n 3 + 3) = False := ixF (by omega) (by omega)
  have b4 : (nI (7 * n 3 + 4) < 0 ∨ 4200 ≤ 7 * n 3 + 4) = False := ixF (by omega) (by omega)
  have b5 : (nI (7 * n 3 + 5) < 0 ∨ 4200 ≤ 7 * n 3 + 5) = False := ixF (by omega) (by omega)
  have b6 : (nI (7 * n 3 + 6) < 0 ∨ 4200 ≤ 7 * n 3 + 6) = False := ixF (by omega) (by omega)
  unfold M_debit_I
  dsimp only [lt1]
  simp only [tC1, tC2, tC3, tC4, tC5, tC6, tB1, tB2, tB3, tB4, tB5, tB6, if_false, f1, f3, Int32.toInt32_toInt64, cc, cb, mL_I, h61, i0, i1, i2, i3, i4, i5, i6, j0, j1, j2, j3, j4, j5, j6, b0, b1, b2, b3, b4, b5, b6, mL62_17, mL25_17, f2, f4, f5, f6, nI_1]
  rfl
theorem W2.acc1 (w : W2 i u s n) (hc : c < n 0) (v : Int64) : W2 i u (mL s 25 c v) n := w.cd (c := c) hc rfl rfl (fun j hj => by simp [cdv, mL, va_up, vp_updL, hj]) (by simpa [mL, va_up] using w.2.2.2.2.2.2.1 c hc)
theorem W2.acc2 (w : W2 i u s n) (hc : c < n 0) (v : Int32) : W2 i u (mA s 26 c v) n := w.cd (c := c) hc rfl rfl (fun j hj => by simp [cdv, mA, va_up, upd, hj]) (by simpa [mA, va_up, upd] using w.2.2.2.2.2.2.1 c hc)
theorem W2.deb (w : W2 i u s n) (cc k t ww a : Int32) (am un : Int64) : W2 (i + 1) u (debS s n cc k am un t ww a) (va_up n 3 (n 3 + 1)) := by
  obtain ⟨⟨c0, c1, c2, c3, c4, c5, c6, c7, c8⟩, w⟩ := w
  exact ⟨⟨c0, c1, c2, ⟨rfl, by show n 3 + 1 ≤ i + 1; omega⟩, c4, ⟨c5.1, by show n 5 ≤ i + 1; omega⟩, ⟨c6.1, by show n 6 ≤ i + 1; omega⟩, ⟨c7.1, by show n 7 ≤ i + 1; omega⟩, c8⟩, w⟩
theorem s_take {p : Nat} {k t w a : Int32} {am un sl : Int64} {kc ks : Nat} {Q : Hp → Prop} (X : CX E A h y s n cp kd fs fr cf gf) (hc : c < n 0) (hn3 : n 3 < 512) (ap : PAY h p (nI c) k am un t w a sl) (hA : A p) (hne : ∀ t', t' < n 1 → p ≠ y 6 t') (k1 : 1 ≤ kc) (k2 : (if n 3 = cp 18 then al_cap (cp 18) else 0) ≤ ks)
    (hQ : ∀ h' y', CX E A h' y' (debS (mL s 25 c (s.2.2.2 25 c - am)) n (nI c) k am un t w a) (va_up n 3 (n 3 + 1)) (va_up cp 18 (alC (n 3) (cp 18))) kd fs fr cf gf → PAY h' p (nI c) k am un t w a sl → (∀ k j, k ≠ 14 → k ≠ 15 → y' k j = y k j) → xg A h h' → Q h') : m_X3_take E (y 0 2) (some (y 9 c)) (some p) h kc ks Q := by
  have x := X.account hc
  have hcp := X.1.2.1.2.2.2.2.2.2.2.2.2.2
  refine nN_of (gL_of x rfl (nN_of (gL_of ap rfl (pV_of x (by show 0 < 2; decide) ?_))))
  obtain ⟨X1, g1⟩ := X.acc (s' := mL s 25 c (s.2.2.2 25 c - am)) (x25 := s.2.2.2 25 c - am) (x26 := s.2.2.1 26 c) hc (xg.set rfl) (by simp [cdv, mL, va_up, vp_updL]) x.set rfl rfl (fun j hj => by simp [cdv, mL, va_up, vp_updL, hj])
  have ap1 : PAY _ p (nI c) k am un t w a sl := ap.ne (a := y 9 c) (e' := .inr (1, [.long (s.2.2.2 25 c - am), .int (s.2.2.1 26 c)])) (nP_obj x (by decide) _ _ ap)
  have l6 := X1.1.2.2.2.1.2.2.2.2.2.2.1
  refine gR_of X1.host rfl (nN_of (l6.isO (cK_of 1 (if n 3 = cp 18 then al_cap (cp 18) else 0) (by omega) (by omega) (s_add l6 ⟨6, _, by omega, ap1⟩ (by have := hcp 18; omega) (fun z => ⟨Nat.le_refl _, by rw [if_pos z]; exact Nat.le_refl _⟩) (fun h' d' c' al ga hd => ?_)))))
  obtain ⟨R', gB⟩ := X1.1.deb hn3 ap1 hA (fun t' ht' _ => hne t' ht') ga al hd
  have ec : c' = alC (n 3) (cp 18) := by
    unfold alC
    rcases hd with ⟨w1, w2, w3⟩ | ⟨w1, w2, w3⟩
    · rw [if_neg (by omega)]; exact w3
    · rw [if_pos w1]; exact w3
  rw [ec] at R'
  have Xn := X1.ys R' (alS.ys (n := n) (j0 := 18) (by omega) (by omega) ga) ⟨by omega, by omega, by omega⟩ (fun _ => rfl)
  refine hQ h' _ Xn (ga.at ap1 (alS.pay X1.1 (by omega) (by omega) _ _ ap1)) (fun k j a1 a2 => ?_) (g1.tr gB)
  show va_up (va_up y 14 _) 15 _ k j = _
  rw [va_up_ne _ _ a2, va_up_ne _ _ a1]
end ACC
