/-! a terminal more -/
def termS (s : MS) (m : Nat) (z0 z1 : Int64) : MS := mI (mL (mL (mL s 37 m z0) 38 m z1) 39 m (12345 + (nI m).toInt64)) 36 (nI (m + 1))
section TERMN
variable {E : Ev} {A S : Nat → Prop} {h h' : Hp} {y y' : Nat → Nat → Nat} {s s' : MS} {n cp n' cp' : Nat → Nat} {i u k m kc ks : Nat} {r : Int32} {P : Nat → Prop}
theorem termS_tmv {z0 z1 : Int64} {j : Nat} (hj : j ≠ m) : tmv (termS s m z0 z1) j = tmv s j := by simp [tmv, termS, mL, mI, va_up, vp_updL, hj]
theorem termS_A {z0 z1 : Int64} : (termS s m z0 z1).2.2.1 = s.2.2.1 := rfl
theorem termS_1 {z0 z1 : Int64} : (termS s m z0 z1).2.1 = s.2.1 := rfl
theorem termS_v {z0 z1 : Int64} : (termS s m z0 z1).2.2.2 37 m = z0 ∧ (termS s m z0 z1).2.2.2 38 m = z1 ∧ (termS s m z0 z1).2.2.2 39 m = 12345 + (nI m).toInt64 := by
  refine ⟨?_, ?_, ?_⟩ <;> simp [termS, mL, mI, va_up, vp_updL]
def yT (E : Ev) (y : Nat → Nat → Nat) (m q p b d : Nat) : Nat → Nat → Nat := up2 (up2 (up2 (up2 (up2 y 5 m q) 6 m p) 7 m b) 8 m (E.2.1 2)) 15 13 d
theorem yT_o {q p b d j : Nat} (e5 : k ≠ 5) (e6 : k ≠ 6) (e7 : k ≠ 7) (e8 : k ≠ 8) (e15 : k ≠ 15) : yT E y m q p b d k j = y k j := by
  show va_up (va_up (va_up (va_up (va_up y 5 _) 6 _) 7 _) 8 _) 15 _ k j = _
  rw [va_up_ne _ _ e15, va_up_ne _ _ e8, va_up_ne _ _ e7, va_up_ne _ _ e6, va_up_ne _ _ e5]
theorem RXo.newt {q p b d c : Nat} {z0 z1 : Int64} (R : RXo E A h y s n cp) (h8 : n 1 < 8) (hf : s.2.2.1 40 (n 1) = 0 ∧ s.2.2.1 41 (n 1) = 0 ∧ s.2.2.1 43 (n 1) = 0 ∧ s.2.2.1 46 (n 1) = 0 ∧ s.2.2.1 48 (n 1) = 0 ∧ s.2.2.1 51 (n 1) = 0 ∧ bl s (n 7) (n 1) = []) (g : xg (alS (y 0 13) (y 15 13) (cp 13)) h h') (hq0 : q ∉ h.1) (hp0 : p ∉ h.1) (hb0 : b ∉ h.1)
    (hq : xh_at h' q (.inr (9, [.ref (y 0 1), .int (nI (n 1)), .long z0, .long z1, .ref b, .int 0, .long (12345 + (nI (n 1)).toInt64), .int 0, .int 0, .ref p, .int 0, .int 0, .int 0, .int 0]))) (hp : PAY h' p 0 0 0 0 0 0 0 0) (hb : xh_at h' b (.inr (0, [.int 0, .ref (E.2.1 2), .int 0])))
    (al : AL E h' (y 0 13) d (n 1 + 1) c (va_up (y 5) (n 1) q)) (hd : (n 1 < cp 13 ∧ d = y 15 13 ∧ c = cp 13) ∨ (n 1 = cp 13 ∧ d ∉ h.1 ∧ c = al_cap (cp 13))) :
    RXo E A h' (yT E y (n 1) q p b d) (termS s (n 1) z0 z1) (va_up n 1 (n 1 + 1)) (va_up cp 13 c) ∧ xg A h h' := by
  obtain ⟨Ra, Rn, Rf, Rl, Rm, Rc, Rt, Rs, Rp⟩ := id R
  obtain ⟨Pf, Pl, Pb, Pm, Pc, Pt, Ps, Pp, PA, Po⟩ := R.app (j0 := 13) (by omega) (by omega) g
  have nqb : q ≠ b := hq.neq hb (by intro w; injection w with w; injection w with w; omega)
  have ra : ∃ f, xh_at h' d (.inl (E.1 4, c, .inr (.inr (.inr (.inr f))))) := by
    obtain ⟨md, b1, b2, b3⟩ := al
    rcases b3 with ⟨w, _⟩ | ⟨w, f, b4, b5, _⟩
    · omega
    · exact ⟨f, b4⟩
  obtain ⟨fr, ra⟩ := ra
  have nqd : q ≠ d := hq.neq ra (by intro w; cases w)
  have nbd : b ≠ d := hb.neq ra (by intro w; cases w)
  have Y5 : ∀ j, yT E y (n 1) q p b d 5 j = va_up (y 5) (n 1) q j := fun _ => rfl
  have Y6 : ∀ j, yT E y (n 1) q p b d 6 j = va_up (y 6) (n 1) p j := fun _ => rfl
  have Y7 : ∀ j, yT E y (n 1) q p b d 7 j = va_up (y 7) (n 1) b j := fun _ => rfl
  have Y8 : ∀ j, yT E y (n 1) q p b d 8 j = va_up (y 8) (n 1) (E.2.1 2) j := fun _ => rfl
  have Y15 : ∀ j, yT E y (n 1) q p b d 15 j = va_up (y 15) 13 d j := fun _ => rfl
  have C : ∀ j, j ≠ 13 → va_up cp 13 c j = cp j := fun j e1 => va_up_ne _ _ e1
  have cls : ∀ k j, lyv (va_up n 1 (n 1 + 1)) (va_up cp 13 c) k j → (lyv n cp k j ∧ yT E y (n 1) q p b d k j = y k j) ∨ (k = 5 ∧ j = n 1) ∨ (k = 7 ∧ j = n 1) ∨ (k = 15 ∧ j = 13 ∧ d ∉ h.1) := by
    intro k j hl
    rcases hl with w | w | w | ⟨w1, w2⟩ | w | ⟨w1, w2, w3, w4⟩ | ⟨w1, w2, w3⟩
    · exact Or.inl ⟨Or.inl w, yT_o (by omega) (by omega) (by omega) (by omega) (by omega)⟩
    · exact Or.inl ⟨Or.inr (Or.inl w), yT_o (by omega) (by omega) (by omega) (by omega) (by omega)⟩
    · exact Or.inl ⟨Or.inr (Or.inr (Or.inl w)), yT_o (by omega) (by omega) (by omega) (by omega) (by omega)⟩
    · have w2' : j < n 1 + 1 := w2
      by_cases ej : j = n 1
      · rcases w1 with w1 | w1
        · exact Or.inr (Or.inl ⟨w1, ej⟩)
        · exact Or.inr (Or.inr (Or.inl ⟨w1, ej⟩))
      · refine Or.inl ⟨Or.inr (Or.inr (Or.inr (Or.inl ⟨w1, by omega⟩))), ?_⟩
        rcases w1 with rfl | rfl
        · rw [Y5, va_up_ne _ _ ej]
        · rw [Y7, va_up_ne _ _ ej]
    · exact Or.inl ⟨Or.inr (Or.inr (Or.inr (Or.inr (Or.inl w)))), yT_o (by omega) (by omega) (by omega) (by omega) (by omega)⟩
    · subst w1
      by_cases e13 : j = 13
      · subst e13
        rcases hd with ⟨b1, b2, b3⟩ | ⟨b1, b2, b3⟩
        · refine Or.inl ⟨ly15 (by omega) (by omega) (by omega), ?_⟩
          rw [Y15, va_up_self, b2]
        · exact Or.inr (Or.inr (Or.inr ⟨rfl, rfl, b2⟩))
      · rw [C j e13] at w4
        refine Or.inl ⟨ly15 w2 w3 w4, ?_⟩
        rw [Y15, va_up_ne _ _ e13]
    · rw [C _ (by omega)] at w3
      subst w1
      have w2' : j < n 1 + 1 := w2
      have ej : j ≠ n 1 := fun e => w3 (by rw [e]; exact Rl.2.2.2.2.2.2.2.2 (n 1) (Nat.le_refl _))
      refine Or.inl ⟨ly8 (by omega) w3, ?_⟩
      rw [Y8, va_up_ne _ _ ej]
  have vq : yT E y (n 1) q p b d 5 (n 1) = q := by rw [Y5, va_up_self]
  have vb : yT E y (n 1) q p b d 7 (n 1) = b := by rw [Y7, va_up_self]
  have vd : yT E y (n 1) q p b d 15 13 = d := by rw [Y15, va_up_self]
  refine ⟨⟨?_, ?_, Pf, ?_, Pm, Pc, ?_, Ps, ?_⟩, PA⟩
  · refine RXa.ext R g.1 (fun k j hl => ?_) (fun k j k' j' hl hl' p1 p2 e => ?_) Ra.2.2.2.1 (fun j hj => ?_) Ra.2.2.2.2.2.1 Ra.2.2.2.2.2.2.1 Ra.2.2.2.2.2.2.2.1 Ra.2.2.2.2.2.2.2.2
    · rcases cls k j hl with w | ⟨rfl, rfl⟩ | ⟨rfl, rfl⟩ | ⟨rfl, rfl, w⟩
      · exact Or.inl w
      · right; rw [vq]; exact hq0
      · right; rw [vb]; exact hb0
      · right; rw [vd]; exact w
    · have o1 : ¬ (lyv n cp k j ∧ yT E y (n 1) q p b d k j = y k j) := fun w => p1 (by rw [w.2]; exact R.lyin w.1)
      have o2 : ¬ (lyv n cp k' j' ∧ yT E y (n 1) q p b d k' j' = y k' j') := fun w => p2 (by rw [w.2]; exact R.lyin w.1)
      rcases cls k j hl with w | ⟨rfl, rfl⟩ | ⟨rfl, rfl⟩ | ⟨rfl, rfl, w⟩
      · exact absurd w o1
      · rcases cls k' j' hl' with w | ⟨rfl, rfl⟩ | ⟨rfl, rfl⟩ | ⟨rfl, rfl, w⟩
        · exact absurd w o2
        · exact ⟨rfl, rfl⟩
        · rw [vq, vb] at e; exact absurd e nqb
        · rw [vq, vd] at e; exact absurd e nqd
      · rcases cls k' j' hl' with w | ⟨rfl, rfl⟩ | ⟨rfl, rfl⟩ | ⟨rfl, rfl, w⟩
        · exact absurd w o2
        · rw [vq, vb] at e; exact absurd e.symm nqb
        · exact ⟨rfl, rfl⟩
        · rw [vb, vd] at e; exact absurd e nbd
      · rcases cls k' j' hl' with w' | ⟨rfl, rfl⟩ | ⟨rfl, rfl⟩ | ⟨rfl, rfl, w'⟩
        · exact absurd w' o2
        · rw [vq, vd] at e; exact absurd e.symm nqd
        · rw [vb, vd] at e; exact absurd e.symm nbd
        · exact ⟨rfl, rfl⟩
    · rw [Y6]
      by_cases ej : j = n 1
      · subst ej; rw [va_up_self]; exact Ra.1 _ hp0
      · rw [va_up_ne _ _ ej]; exact Ra.2.2.2.2.1 j (by have : j < n 1 + 1 := hj; omega)
  · obtain ⟨r0, r1, r2, r3, r4, r5, r6, r7, r8, r9, r10⟩ := Rn
    refine ⟨r0, ⟨rfl, by show n 1 + 1 ≤ 8; omega⟩, r2, r3, r4, r5, r6, r7, r8, r9, fun j => ?_⟩
    by_cases e13 : j = 13
    · subst e13
      rw [va_up_self]
      rcases hd with ⟨w1, w2, w3⟩ | ⟨w1, w2, w3⟩
      · rw [w3]; exact r10 13
      · rw [w3, ← w1]; unfold al_cap; split <;> omega
    · rw [va_up_ne _ _ e13]; exact r10 j
  · obtain ⟨l0, l1, l2, l3, l4, l5, l6, l7⟩ := Rl
    refine ⟨Pl 12 _ _ (by omega) (by omega) (by omega) l0, al, Pl 14 _ _ (by omega) (by omega) (by omega) l2, Pl 15 _ _ (by omega) (by omega) (by omega) l3, Pl 16 _ _ (by omega) (by omega) (by omega) l4, Pl 17 _ _ (by omega) (by omega) (by omega) l5, Pl 18 _ _ (by omega) (by omega) (by omega) l6, fun t' ht => ?_, fun t' ht => (C _ (by omega)).trans (l7.2 t' (by have : n 1 + 1 ≤ t' := ht; omega))⟩
    have ht' : t' < n 1 + 1 := ht
    show AL E h' (yT E y (n 1) q p b d 7 t') (yT E y (n 1) q p b d 8 t') (bl s (n 7) t').length (va_up cp 13 c (20 + t')) (fun j => y 16 ((bl s (n 7) t').getD j 0))
    rw [C (20 + t') (by omega), Y7, Y8]
    by_cases et : t' = n 1
    · subst et
      rw [va_up_self, va_up_self, hf.2.2.2.2.2.2, l7.2 (n 1) (Nat.le_refl _)]
      refine ⟨0, ?_, Nat.le_refl _, Or.inl ⟨rfl, rfl⟩⟩
      show xh_at h' b (.inr (0, [.int 0, .ref (E.2.1 2), .int (nI 0)]))
      rw [nI_0]; exact hb
    · rw [va_up_ne _ _ et, va_up_ne _ _ et]
      exact Pb t' (by omega) _ _ (l7.1 t' (by omega))
  · intro j hj
    have hj' : j < n 1 + 1 := hj
    by_cases ej : j = n 1
    · subst ej
      obtain ⟨b1, b2, b3, b4, b5, b6, -⟩ := hf
      obtain ⟨v1, v2, v3⟩ := termS_v (s := s) (m := n 1) (z0 := z0) (z1 := z1)
      refine ⟨0, ?_, fun w => ?_, 0, 0, 0, 0, 0, 0, 0, 0, ?_, fun w => ?_, fun w => ?_, fun w => ?_, fun w => ?_⟩
      · rw [vq, vb, Y6, va_up_self, yT_o (k := 0) (by omega) (by omega) (by omega) (by omega) (by omega), termS_A, v1, v2, v3, b1, b2, b3, b4, b5, b6]
        exact hq
      · rw [termS_A] at w; exact absurd b2 w
      · rw [Y6, va_up_self]; exact hp
      · rw [termS_A] at w; exact absurd b2 w
      · rw [termS_A, b2] at w; exact absurd w (by decide)
      · rw [termS_A, b2] at w; exact absurd w (by decide)
      · rw [termS_A, b2] at w; exact absurd w (by decide)
    · have e := termS_tmv (s := s) (m := n 1) (z0 := z0) (z1 := z1) ej
      unfold tmv at e
      simp only [Prod.mk.injEq] at e
      obtain ⟨u1, u2, u3, u4, u5, u6, u7, u8, u9, u10, u11, u12, u13, u14, u15⟩ := e
      have := Pt j (by omega)
      rw [Y5, Y6, Y7, va_up_ne _ _ ej, va_up_ne _ _ ej, va_up_ne _ _ ej, yT_o (k := 0) (by omega) (by omega) (by omega) (by omega) (by omega), u1, u2, u3, u4, u5, u6, u7, u8, u9, u10, u11, u12, u13, u14, u15, termS_1]
      exact this
  · obtain ⟨p1, p2, p3, p4, p5⟩ := Pp
    refine ⟨p1, p2, p3, p4, fun t1 ht hw => ?_⟩
    have ht' : t1 < n 1 + 1 := ht
    rw [termS_A] at hw
    have et : t1 ≠ n 1 := fun e => hw (by rw [e]; exact hf.2.1)
    obtain ⟨q1, q2, q3, q4, q5⟩ := p5 t1 (by omega) hw
    have e6 : yT E y (n 1) q p b d 6 t1 = y 6 t1 := by rw [Y6, va_up_ne _ _ et]
    rw [e6]
    refine ⟨fun j hj hn => ?_, q2, q3, q4, q5⟩
    have hj' : j < n 1 + 1 := hj
    rw [Y6]
    by_cases ej : j = n 1
    · subst ej
      rw [va_up_self]
      exact fun e => (R.fr hp0).1 t1 (by omega) e.symm
    · rw [va_up_ne _ _ ej]; exact q1 j (by omega) hn
theorem W2.newt {z0 z1 : Int64} (w : W2 i u s n) (h8 : n 1 < 8) : W2 i u (termS s (n 1) z0 z1) (va_up n 1 (n 1 + 1)) := by
  obtain ⟨⟨c0, c1, c2, c3, c4, c5, c6, c7, c8⟩, wb, wg, wz, wa, wt, wp, wd, wf⟩ := w
  refine ⟨⟨c0, ⟨rfl, by show n 1 + 1 ≤ 8; omega⟩, c2, c3, c4, c5, c6, c7, c8⟩, wb, wg, wz, fun j hj => ?_, fun t ht q => ?_, wp, wd, wf.1, fun t h1 h2 => wf.2 t (by have : n 1 + 1 ≤ t := h1; omega) h2⟩
  · have := wa j hj
    exact ⟨this.1.m (Nat.le_refl _) (by show n 1 ≤ n 1 + 1; omega), this.2.m (Nat.le_refl _) (by show n 1 ≤ n 1 + 1; omega)⟩
  · have ht' : t < n 1 + 1 := ht
    have q' : ¬ s.2.2.1 41 t = 0 := q
    by_cases e : t = n 1
    · subst e; exact absurd (wf.2 (n 1) (Nat.le_refl _) h8).2.1 q'
    · exact wt t (by omega) q'
theorem M_term_eq {z0 z1 : Int64} (h36 : s.1 36 = nI m) (hm : m < 8) (w0 : wi z0 0 1000000000) (w1 : wi z1 0 1000000000) : M_terminal s z0 z1 = some (nI m, termS s m z0 z1) := by
  have cc : (nI m).toNatClampNeg = m := nI_clamp (by omega)
  have cb : (nI m < 0 ∨ 8 ≤ m) = False := ixF (by omega) (by omega)
  unfold M_terminal
  rw [h36, if_neg (fun e => by have := (nI_eq (b := 8) (by omega) (by omega)).mp e; omega), (M_isIn_eq s _ _ _).1 w0, Option.bind_some, lt1_e, lt1_e, if_neg (show ¬ (1 : Int32) = 0 by decide), (M_isIn_eq s _ _ _).1 w1, Option.bind_some, lt1_e, lt1_e, if_neg (show ¬ (1 : Int32) = 0 by decide)]
  have e36 : ∀ (z : MS) (v : Int32), (mI z 36 v).1 36 = v := fun z v => by show va_up z.1 36 v 36 = v; exact va_up_self _ _ _
  simp only [lt1_e, mA_I, mL_I, h36, cc, cb, if_false, nI_1, e36, nI_pred]
  rfl
theorem M_term_no {z0 z1 : Int64} (h36 : s.1 36 = nI m) (hm : m ≤ 8) (hw : ¬ (m < 8 ∧ wi z0 0 1000000000 ∧ wi z1 0 1000000000)) : M_terminal s z0 z1 = some (-1, s) := by
  unfold M_terminal
  rw [h36]
  by_cases a : m < 8
  rotate_left
  · rw [if_pos (show nI m = 8 by rw [show m = 8 by omega]; rfl)]
  rw [if_neg (fun e => by have := (nI_eq (b := 8) (by omega) (by omega)).mp e; omega)]
  by_cases w0 : wi z0 0 1000000000
  rotate_left
  · rw [(M_isIn_eq s _ _ _).2 w0, Option.bind_some, lt1_e, lt1_e, if_pos rfl]
  rw [(M_isIn_eq s _ _ _).1 w0, Option.bind_some, lt1_e, lt1_e, if_neg (show ¬ (1 : Int32) = 0 by decide)]
  by_cases w1 : wi z1 0 1000000000
  rotate_left
  · rw [(M_isIn_eq s _ _ _).2 w1, Option.bind_some, lt1_e, lt1_e, if_pos rfl]
  exact absurd ⟨a, w0, w1⟩ hw
theorem drw0 {m : Nat} (hm : m < 8) : ((12345 : Int32) + nI m).toInt64 = 12345 + (nI m).toInt64 := by
  rw [show (12345 : Int32) + nI m = nI (12345 + m) from nI_add 12345 m, nI_l (by omega), nI_l (by omega), show (12345 : Int64) = lN 12345 from rfl, lN_add]
theorem SJ_terminal_ok : SJ_terminal RX WF := by
  intro E A h x s i kc ks z0 z1 hR hW hi
  obtain ⟨y, n, cp, rfl, R, hb⟩ := id hR
  have w := hW.w hi R
  have wn := w.mono (i' := i + 1) (u' := 2 * i + 2) (by omega) (by omega)
  have hn1 := R.2.1.2.1
  have hcp := R.2.1.2.2.2.2.2.2.2.2.2.2
  obtain ⟨f0, f1, f2, -⟩ := id R.2.2.1
  have l1 := R.2.2.2.1.2.1
  have cls : ∀ (kc ks : Nat) (Q : Int32 → Hp → Prop), (¬ (n 1 < 8 ∧ wi z0 0 1000000000 ∧ wi z1 0 1000000000) → Q (-1) h) → ((n 1 < 8 ∧ wi z0 0 1000000000 ∧ wi z1 0 1000000000) → nO h kc ks 9 14 [.null, .int 0, .long 0, .long 0, .null, .int 0, .long 0, .int 0, .int 0, .null, .int 0, .int 0, .int 0, .int 0] fun a25 h26 kc27 ks28 => gR h26 (y 0 0) 12 0 fun r30 => cK kc27 ks28 fun mc32 ms33 kc34 ks35 => m_X8_init E a25 r30 (nI (n 1)) z0 z1 h26 mc32 ms33 (fun h37 => nN (some (y 0 13)) fun a45 => isO h37 a45 0 (cK kc34 ks35 fun mc39 ms40 kc41 ks42 => m_Jx4a65c_add_9ea2d E a45 (some a25) h37 mc39 ms40 (fun x43 h44 => Q (nI (n 1)) h44)))) → m_X11_terminal E (y 0 0) z0 z1 h kc ks Q := by
    intro kc ks Q hno hyes
    refine gR_of f0 rfl (nN_of (gR_of f1 rfl (nN_of (l1.isO (s_size l1 ⟨fun q => hno (fun w => ?_), fun q => ?_⟩)))))
    · exact nI_ge (b := 8) w.1 (by omega) q
    have a : n 1 < 8 := Nat.lt_of_not_le (fun w => q (nI_le (a := 8) w (by omega)))
    refine s_wi (fun w0 => ⟨fun z => absurd z (by decide), fun _ => s_wi (fun w1 => ⟨fun z => absurd z (by decide), fun _ => gR_of f0 rfl (nN_of (gR_of f1 rfl (hyes ⟨a, w0, w1⟩)))⟩) (fun w1 => ⟨fun _ => hno (fun v => w1 v.2.2), fun z => absurd rfl z⟩)⟩) (fun w0 => ⟨fun _ => hno (fun v => w0 v.2.1), fun z => absurd rfl z⟩)
  by_cases all : n 1 < 8 ∧ wi z0 0 1000000000 ∧ wi z1 0 1000000000
  rotate_left
  · refine ⟨-1, s, M_term_no hn1.1 hn1.2 all, ?_⟩
    have := JP.same (E := E) (A := A) (h := h) (y := y) (n := n) (cp := cp) (r := (-1 : Int32)) (X := fun kc ks Q => m_X11_terminal E (y 0 0) z0 z1 h kc ks Q) R wn (fun kc ks Q hQ => cls kc ks Q (fun _ => hQ) (fun a => absurd a all))
    exact this.sj hb hi (Nat.le_refl _)
  obtain ⟨h8, w0, w1⟩ := id all
  refine ⟨nI (n 1), termS s (n 1) z0 z1, M_term_eq hn1.1 h8 w0 w1, ?_⟩
  have G1 := grow_F (n := n) (cp := cp) (j0 := 13) (m := n 1) (by omega) (by omega) hcp (by omega) (cp10 R (by omega) (by omega))
  have g1 := G1.1
  refine JP.sj (y := y) (X := fun kc ks Q => m_X11_terminal E (y 0 0) z0 z1 h kc ks Q) hb hi ⟨va_up n 1 (n 1 + 1), va_up cp 13 (alC (n 1) (cp 13)), wn.newt h8, Nat.le_refl _, ?_, fun kc ks k1 k2 Q hQ => cls kc ks Q (fun a => absurd all a) (fun _ => ?_)⟩ (Nat.le_refl _)
  · show Fs n _ ≤ Fs n cp
    omega
  have k1' : 6 + Fc n ≤ kc + Fc n := k1
  have k2' : 200 + Fs n cp ≤ ks + Fs n (va_up cp 13 (alC (n 1) (cp 13))) := k2
  refine ⟨kc - 1, ks - 14, by omega, by omega, fun q h1 hq eq1 => ?_⟩
  have gq : xg (fun _ => False) h h1 := by rw [eq1]; exact xg.new hq
  have q1 : xh_at h1 q (.inr (9, [.null, .int 0, .long 0, .long 0, .null, .int 0, .long 0, .int 0, .int 0, .null, .int 0, .int 0, .int 0, .int 0])) := by rw [eq1]; exact xh_at.newq
  refine gR_of (gq.at f0 (fun w => w)) rfl (cK_of 2 11 (by omega) (by omega) ⟨1, 8, by omega, by omega, fun b h2 hb' eq2 => ?_⟩)
  have hb0 : b ∉ h.1 := fun w => hb' (gq.1 b w)
  have b2 : xh_at h2 b (.inr (0, [.int 0, .null, .int 0])) := by rw [eq2]; exact xh_at.newq
  have q2 : xh_at h2 q (.inr (9, [.null, .int 0, .long 0, .long 0, .null, .int 0, .long 0, .int 0, .int 0, .null, .int 0, .int 0, .int 0, .int 0])) := by rw [eq2]; exact q1.new hb'
  have g2 : xg (fun _ => False) h h2 := by rw [eq2]; exact gq.tr (xg.new hb')
  have nbq : b ≠ q := fun w => hb' (by rw [w]; exact q1.1)
  refine pV_of b2 (by show 0 < 3; decide) (pV_of b2.set (by show 1 < 3; decide) ?_)
  have b3 := (b2.set (e' := .inr (0, [.int 0, .null, .int 0]))).set (e' := .inr (0, [.int 0, .ref (E.2.1 2), .int 0]))
  have q3 := (q2.ne (e' := .inr (0, [.int 0, .null, .int 0])) (fun w => nbq w.symm)).ne (e' := .inr (0, [.int 0, .ref (E.2.1 2), .int 0])) (fun w => nbq w.symm)
  have g3 := (g2.setn (e := .inr (0, [.int 0, .null, .int 0])) hb0).setn (e := .inr (0, [.int 0, .ref (E.2.1 2), .int 0])) hb0
  refine pV_of q3 (by show 4 < 14; decide) (pV_of q3.set (by show 5 < 14; decide) ⟨0, 0, by omega, by omega, fun p h4 hp eq4 => ?_⟩)
  have q4 := (q3.set (e' := .inr (9, [.null, .int 0, .long 0, .long 0, .ref b, .int 0, .long 0, .int 0, .int 0, .null, .int 0, .int 0, .int 0, .int 0]))).set (e' := .inr (9, [.null, .int 0, .long 0, .long 0, .ref b, .int 0, .long 0, .int 0, .int 0, .null, .int 0, .int 0, .int 0, .int 0]))
  have b4 := (b3.ne (e' := .inr (9, [.null, .int 0, .long 0, .long 0, .ref b, .int 0, .long 0, .int 0, .int 0, .null, .int 0, .int 0, .int 0, .int 0])) nbq).ne (e' := .inr (9, [.null, .int 0, .long 0, .long 0, .ref b, .int 0, .long 0, .int 0, .int 0, .null, .int 0, .int 0, .int 0, .int 0])) nbq
  have g4 := (g3.setn (e := .inr (9, [.null, .int 0, .long 0, .long 0, .ref b, .int 0, .long 0, .int 0, .int 0, .null, .int 0, .int 0, .int 0, .int 0])) hq).setn (e := .inr (9, [.null, .int 0, .long 0, .long 0, .ref b, .int 0, .long 0, .int 0, .int 0, .null, .int 0, .int 0, .int 0, .int 0])) hq
  have hp0 : p ∉ h.1 := fun w => hp (g4.1 p w)
  have npq : q ≠ p := fun w => hp (by rw [← w]; exact q4.1)
  have nbp : b ≠ p := fun w => hp (by rw [← w]; exact b4.1)
  have q5 : xh_at h4 q (.inr (9, [.null, .int 0, .long 0, .long 0, .ref b, .int 0, .long 0, .int 0, .int 0, .null, .int 0, .int 0, .int 0, .int 0])) := by rw [eq4]; exact q4.new hp
  have b5 : xh_at h4 b (.inr (0, [.int 0, .ref (E.2.1 2), .int 0])) := by rw [eq4]; exact b4.new hp
  have p5 : xh_at h4 p (.inr (6, [.int 0, .int 0, .long 0, .long 0, .int 0, .int 0, .int 0, .long 0])) := by rw [eq4]; exact xh_at.newq
  have g5 : xg (fun _ => False) h h4 := by rw [eq4]; exact g4.tr (xg.new hp)
  refine pV_of q5 (by show 9 < 14; decide) (pV_of q5.set (by show 12 < 14; decide) (pV_of q5.set.set (by show 0 < 14; decide) (pV_of q5.set.set.set (by show 1 < 14; decide) (pV_of q5.set.set.set.set (by show 2 < 14; decide) (pV_of q5.set.set.set.set.set (by show 3 < 14; decide) (pV_of q5.set.set.set.set.set.set (by show 6 < 14; decide) ?_))))))
  rw [drw0 h8]
  have q6 := ((((((q5.set (e' := .inr (9, [.null, .int 0, .long 0, .long 0, .ref b, .int 0, .long 0, .int 0, .int 0, .ref p, .int 0, .int 0, .int 0, .int 0]))).set (e' := .inr (9, [.null, .int 0, .long 0, .long 0, .ref b, .int 0, .long 0, .int 0, .int 0, .ref p, .int 0, .int 0, .int 0, .int 0]))).set (e' := .inr (9, [.ref (y 0 1), .int 0, .long 0, .long 0, .ref b, .int 0, .long 0, .int 0, .int 0, .ref p, .int 0, .int 0, .int 0, .int 0]))).set (e' := .inr (9, [.ref (y 0 1), .int (nI (n 1)), .long 0, .long 0, .ref b, .int 0, .long 0, .int 0, .int 0, .ref p, .int 0, .int 0, .int 0, .int 0]))).set (e' := .inr (9, [.ref (y 0 1), .int (nI (n 1)), .long z0, .long 0, .ref b, .int 0, .long 0, .int 0, .int 0, .ref p, .int 0, .int 0, .int 0, .int 0]))).set (e' := .inr (9, [.ref (y 0 1), .int (nI (n 1)), .long z0, .long z1, .ref b, .int 0, .long 0, .int 0, .int 0, .ref p, .int 0, .int 0, .int 0, .int 0]))).set (e' := .inr (9, [.ref (y 0 1), .int (nI (n 1)), .long z0, .long z1, .ref b, .int 0, .long (12345 + (nI (n 1)).toInt64), .int 0, .int 0, .ref p, .int 0, .int 0, .int 0, .int 0]))
  have keep : ∀ {a e}, a ≠ q → xh_at h4 a e → xh_at (xh_set (xh_set (xh_set (xh_set (xh_set (xh_set (xh_set h4 q (.inr (9, [.null, .int 0, .long 0, .long 0, .ref b, .int 0, .long 0, .int 0, .int 0, .ref p, .int 0, .int 0, .int 0, .int 0]))) q (.inr (9, [.null, .int 0, .long 0, .long 0, .ref b, .int 0, .long 0, .int 0, .int 0, .ref p, .int 0, .int 0, .int 0, .int 0]))) q (.inr (9, [.ref (y 0 1), .int 0, .long 0, .long 0, .ref b, .int 0, .long 0, .int 0, .int 0, .ref p, .int 0, .int 0, .int 0, .int 0]))) q (.inr (9, [.ref (y 0 1), .int (nI (n 1)), .long 0, .long 0, .ref b, .int 0, .long 0, .int 0, .int 0, .ref p, .int 0, .int 0, .int 0, .int 0]))) q (.inr (9, [.ref (y 0 1), .int (nI (n 1)), .long z0, .long 0, .ref b, .int 0, .long 0, .int 0, .int 0, .ref p, .int 0, .int 0, .int 0, .int 0]))) q (.inr (9, [.ref (y 0 1), .int (nI (n 1)), .long z0, .long z1, .ref b, .int 0, .long 0, .int 0, .int 0, .ref p, .int 0, .int 0, .int 0, .int 0]))) q (.inr (9, [.ref (y 0 1), .int (nI (n 1)), .long z0, .long z1, .ref b, .int 0, .long (12345 + (nI (n 1)).toInt64), .int 0, .int 0, .ref p, .int 0, .int 0, .int 0, .int 0]))) a e := fun hn hx => (((((((hx.ne hn).ne hn).ne hn).ne hn).ne hn).ne hn).ne hn)
  have b6 := keep nbq b5
  have p6 := keep (fun w => npq w.symm) p5
  have g6 := ((((((g5.setn (e := .inr (9, [.null, .int 0, .long 0, .long 0, .ref b, .int 0, .long 0, .int 0, .int 0, .ref p, .int 0, .int 0, .int 0, .int 0])) hq).setn (e := .inr (9, [.null, .int 0, .long 0, .long 0, .ref b, .int 0, .long 0, .int 0, .int 0, .ref p, .int 0, .int 0, .int 0, .int 0])) hq).setn (e := .inr (9, [.ref (y 0 1), .int 0, .long 0, .long 0, .ref b, .int 0, .long 0, .int 0, .int 0, .ref p, .int 0, .int 0, .int 0, .int 0])) hq).setn (e := .inr (9, [.ref (y 0 1), .int (nI (n 1)), .long 0, .long 0, .ref b, .int 0, .long 0, .int 0, .int 0, .ref p, .int 0, .int 0, .int 0, .int 0])) hq).setn (e := .inr (9, [.ref (y 0 1), .int (nI (n 1)), .long z0, .long 0, .ref b, .int 0, .long 0, .int 0, .int 0, .ref p, .int 0, .int 0, .int 0, .int 0])) hq).setn (e := .inr (9, [.ref (y 0 1), .int (nI (n 1)), .long z0, .long z1, .ref b, .int 0, .long 0, .int 0, .int 0, .ref p, .int 0, .int 0, .int 0, .int 0])) hq).setn (e := .inr (9, [.ref (y 0 1), .int (nI (n 1)), .long z0, .long z1, .ref b, .int 0, .long (12345 + (nI (n 1)).toInt64), .int 0, .int 0, .ref p, .int 0, .int 0, .int 0, .int 0])) hq
  have RI := R.z g6
  have l1' := RI.2.2.2.1.2.1
  have nal : ∀ {x : Nat}, x ∉ h.1 → ¬ alS (y 0 13) (y 15 13) (cp 13) x := by
    rintro x hx (rfl | ⟨rfl, e⟩)
    · exact hx (R.lyin (ly0 (by omega)))
    · exact hx (R.lyin (ly15 (by omega) (by omega) e))
  refine nN_of (l1'.isO (cK_of 1 (if n 1 = cp 13 then al_cap (cp 13) else 0) (by omega) (by omega) (s_add l1' ⟨9, _, by omega, q6⟩ (by have := hcp 13; omega) (fun z => ⟨Nat.le_refl _, by rw [if_pos z]; exact Nat.le_refl _⟩) (fun h7 d c al ga hd => ?_))))
  have hd' : (n 1 < cp 13 ∧ d = y 15 13 ∧ c = cp 13) ∨ (n 1 = cp 13 ∧ d ∉ h.1 ∧ c = al_cap (cp 13)) := by
    rcases hd with b | ⟨b1, b2, b3⟩
    · exact Or.inl b
    · exact Or.inr ⟨b1, fun w => b2 (g6.1 _ w), b3⟩
  obtain ⟨R7, g7⟩ := R.newt (z0 := z0) (z1 := z1) h8 (w.2.2.2.2.2.2.2.2.2 (n 1) (Nat.le_refl _) h8) ((g6.mono (fun _ _ w => w.elim)).tr ga) hq hp0 hb0 (ga.at q6 (nal hq)) (ga.at p6 (nal hp0)) (ga.at b6 (nal hb0)) al hd'
  have ec : c = alC (n 1) (cp 13) := by
    unfold alC
    rcases hd with ⟨w1, w2, w3⟩ | ⟨w1, w2, w3⟩
    · rw [if_neg (by omega)]; exact w3
    · rw [if_pos w1]; exact w3
  rw [ec] at R7
  exact hQ h7 _ R7 rfl g7
end TERMN
