/-! card -/
section CARD2
variable {E : Ev} {A S : Nat → Prop} {h h' : Hp} {y y' : Nat → Nat → Nat} {s s' : MS} {n cp n' cp' : Nat → Nat} {i u k m kc ks : Nat} {r : Int32} {P : Nat → Prop}
theorem M_card_eq {z0 z2 : Int32} {z1 z3 : Int64} (h21 : s.1 21 = nI m) (hm : m < 16) (w0 : wi z0.toInt64 0 9999) (w1 : wi z1 0 1000000000) (w2 : wi z2.toInt64 0 9) (w3 : wi z3 0 1000000000000) : M_card s z0 z1 z2 z3 = some (nI m, cardS s m z0 z1 z2 z3) := by
  have cc : (nI m).toNatClampNeg = m := nI_clamp (by omega)
  have cb : (nI m < 0 ∨ 16 ≤ m) = False := ixF (by omega) (by omega)
  unfold M_card
  rw [h21, if_neg (fun e => by have := (nI_eq (b := 16) (by omega) (by omega)).mp e; omega), (M_isIn_eq s _ _ _).1 w0, Option.bind_some, lt1_e, lt1_e, if_neg (show ¬ (1 : Int32) = 0 by decide), (M_isIn_eq s _ _ _).1 w1, Option.bind_some, lt1_e, lt1_e, if_neg (show ¬ (1 : Int32) = 0 by decide), (M_isIn_eq s _ _ _).1 w2, Option.bind_some, lt1_e, lt1_e, if_neg (show ¬ (1 : Int32) = 0 by decide), (M_isIn_eq s _ _ _).1 w3, Option.bind_some, lt1_e, lt1_e, if_neg (show ¬ (1 : Int32) = 0 by decide)]
  have e21 : ∀ (z : MS) (v : Int32), (mI z 21 v).1 21 = v := fun z v => by show va_up z.1 21 v 21 = v; exact va_up_self _ _ _
  simp only [lt1_e, mA_I, mL_I, h21, cc, cb, if_false, nI_1, e21, nI_pred]
  rfl
theorem M_card_no {z0 z2 : Int32} {z1 z3 : Int64} (h21 : s.1 21 = nI m) (hm : m ≤ 16) (hw : ¬ (m < 16 ∧ wi z0.toInt64 0 9999 ∧ wi z1 0 1000000000 ∧ wi z2.toInt64 0 9 ∧ wi z3 0 1000000000000)) : M_card s z0 z1 z2 z3 = some (-1, s) := by
  unfold M_card
  rw [h21]
  by_cases a : m < 16
  rotate_left
  · rw [if_pos (show nI m = 16 by rw [show m = 16 by omega]; rfl)]
  rw [if_neg (fun e => by have := (nI_eq (b := 16) (by omega) (by omega)).mp e; omega)]
  by_cases w0 : wi z0.toInt64 0 9999
  rotate_left
  · rw [(M_isIn_eq s _ _ _).2 w0, Option.bind_some, lt1_e, lt1_e, if_pos rfl]
  rw [(M_isIn_eq s _ _ _).1 w0, Option.bind_some, lt1_e, lt1_e, if_neg (show ¬ (1 : Int32) = 0 by decide)]
  by_cases w1 : wi z1 0 1000000000
  rotate_left
  · rw [(M_isIn_eq s _ _ _).2 w1, Option.bind_some, lt1_e, lt1_e, if_pos rfl]
  rw [(M_isIn_eq s _ _ _).1 w1, Option.bind_some, lt1_e, lt1_e, if_neg (show ¬ (1 : Int32) = 0 by decide)]
  by_cases w2 : wi z2.toInt64 0 9
  rotate_left
  · rw [(M_isIn_eq s _ _ _).2 w2, Option.bind_some, lt1_e, lt1_e, if_pos rfl]
  rw [(M_isIn_eq s _ _ _).1 w2, Option.bind_some, lt1_e, lt1_e, if_neg (show ¬ (1 : Int32) = 0 by decide)]
  by_cases w3 : wi z3 0 1000000000000
  rotate_left
  · rw [(M_isIn_eq s _ _ _).2 w3, Option.bind_some, lt1_e, lt1_e, if_pos rfl]
  exact absurd ⟨a, w0, w1, w2, w3⟩ hw
theorem RXo.z {hI : Hp} (R : RXo E A h y s n cp) (g : xg (fun _ => False) h hI) : RXo E A hI y s n cp := R.k ⟨g.1, fun a ha _ => g.2 a ha (fun w => w)⟩
theorem SJ_card_ok : SJ_card RX WF := by
  intro E A h x s i kc ks z0 z1 z2 z3 hR hW hi
  obtain ⟨y, n, cp, rfl, R, hb⟩ := id hR
  have w := hW.w hi R
  have wn := w.mono (i' := i + 1) (u' := 2 * i + 2) (by omega) (by omega)
  have hn0 := R.2.1.1
  have hcp := R.2.1.2.2.2.2.2.2.2.2.2.2
  obtain ⟨f0, f1, f2, -⟩ := id R.2.2.1
  have l0 := R.2.2.2.1.1
  have cls : ∀ (kc ks : Nat) (Q : Int32 → Hp → Prop), (¬ (n 0 < 16 ∧ wi z0.toInt64 0 9999 ∧ wi z1 0 1000000000 ∧ wi z2.toInt64 0 9 ∧ wi z3 0 1000000000000) → Q (-1) h) → ((n 0 < 16 ∧ wi z0.toInt64 0 9999 ∧ wi z1 0 1000000000 ∧ wi z2.toInt64 0 9 ∧ wi z3 0 1000000000000) → nO h kc ks 2 12 [.null, .int 0, .int 0, .long 0, .int 0, .int 0, .int 0, .int 0, .int 0, .int 0, .int 0, .null] fun a33 h34 kc35 ks36 => gR h34 (y 0 0) 12 0 fun r38 => cK kc35 ks36 fun mc40 ms41 kc42 ks43 => m_X1_init E a33 r38 (nI (n 0)) z0 z1 z2 h34 mc40 ms41 (fun h45 => nN (some (y 0 12)) fun a53 => isO h45 a53 0 (cK kc42 ks43 fun mc47 ms48 kc49 ks50 => m_Jx4a65c_add_9ea2d E a53 (some a33) h45 mc47 ms48 (fun x51 h52 => gR h52 (y 0 0) 12 1 fun r55 => nN r55 fun a57 => gR h52 a57 4 1 fun r58 => nO h52 kc49 ks50 1 2 [.long 0, .int 0] fun a60 h61 kc62 ks63 => m_X0_init E a60 z3 h61 0 0 (fun h66 => nN r58 fun a74 => isO h66 a74 0 (cK kc62 ks63 fun mc68 ms69 kc70 ks71 => m_Jx4a65c_add_9ea2d E a74 (some a60) h66 mc68 ms69 (fun x72 h73 => Q (nI (n 0)) h73))))))) → m_X11_card E (y 0 0) z0 z1 z2 z3 h kc ks Q := by
    intro kc ks Q hno hyes
    refine gR_of f0 rfl (nN_of (gR_of f1 rfl (nN_of (l0.isO (s_size l0 ⟨fun q => hno (fun w => ?_), fun q => ?_⟩)))))
    · exact nI_ge (b := 16) w.1 (by omega) q
    have a : n 0 < 16 := Nat.lt_of_not_le (fun w => q (nI_le (a := 16) w (by omega)))
    refine s_wi (fun w0 => ⟨fun z => absurd z (by decide), fun _ => s_wi (fun w1 => ⟨fun z => absurd z (by decide), fun _ => s_wi (fun w2 => ⟨fun z => absurd z (by decide), fun _ => s_wi (fun w3 => ⟨fun z => absurd z (by decide), fun _ => gR_of f0 rfl (nN_of (gR_of f1 rfl (hyes ⟨a, w0, w1, w2, w3⟩)))⟩) (fun w3 => ⟨fun _ => hno (fun v => w3 v.2.2.2.2), fun z => absurd rfl z⟩)⟩) (fun w2 => ⟨fun _ => hno (fun v => w2 v.2.2.2.1), fun z => absurd rfl z⟩)⟩) (fun w1 => ⟨fun _ => hno (fun v => w1 v.2.2.1), fun z => absurd rfl z⟩)⟩) (fun w0 => ⟨fun _ => hno (fun v => w0 v.2.1), fun z => absurd rfl z⟩)
  by_cases all : n 0 < 16 ∧ wi z0.toInt64 0 9999 ∧ wi z1 0 1000000000 ∧ wi z2.toInt64 0 9 ∧ wi z3 0 1000000000000
  rotate_left
  · refine ⟨-1, s, M_card_no hn0.1 hn0.2 all, ?_⟩
    have := JP.same (E := E) (A := A) (h := h) (y := y) (n := n) (cp := cp) (r := (-1 : Int32)) (X := fun kc ks Q => m_X11_card E (y 0 0) z0 z1 z2 z3 h kc ks Q) R wn (fun kc ks Q hQ => cls kc ks Q (fun _ => hQ) (fun a => absurd a all))
    exact this.sj hb hi (Nat.le_refl _)
  obtain ⟨h16, w0, w1, w2, w3⟩ := id all
  refine ⟨nI (n 0), cardS s (n 0) z0 z1 z2 z3, M_card_eq hn0.1 h16 w0 w1 w2 w3, ?_⟩
  have G1 := grow_F (n := n) (cp := cp) (j0 := 12) (m := n 0) (by omega) (by omega) hcp (by omega) (cp10 R (by omega) (by omega))
  have e17 : va_up cp 12 (alC (n 0) (cp 12)) 17 = cp 17 := va_up_ne _ _ (by omega)
  have G2 := grow_F (n := n) (cp := va_up cp 12 (alC (n 0) (cp 12))) (j0 := 17) (m := n 0) (by omega) (by omega) G1.2 (by omega) (by rw [e17]; exact cp10 R (by omega) (by omega))
  rw [e17] at G2
  have g1 := G1.1
  have g2 := G2.1
  refine JP.sj (y := y) (X := fun kc ks Q => m_X11_card E (y 0 0) z0 z1 z2 z3 h kc ks Q) hb hi ⟨va_up n 0 (n 0 + 1), va_up (va_up cp 12 (alC (n 0) (cp 12))) 17 (alC (n 0) (cp 17)), wn.newc h16, Nat.le_refl _, ?_, fun kc ks k1 k2 Q hQ => cls kc ks Q (fun a => absurd all a) (fun _ => ?_)⟩ (Nat.le_refl _)
  · show Fs n _ ≤ Fs n cp
    omega
  have k1' : 6 + Fc n ≤ kc + Fc n := k1
  have k2' : 200 + Fs n cp ≤ ks + Fs n (va_up (va_up cp 12 (alC (n 0) (cp 12))) 17 (alC (n 0) (cp 17))) := k2
  -- the card
  refine ⟨kc - 1, ks - 12, by omega, by omega, fun q h1 hq eq1 => ?_⟩
  have gq : xg (fun _ => False) h h1 := by rw [eq1]; exact xg.new hq
  have q1 : xh_at h1 q (.inr (2, [.null, .int 0, .int 0, .long 0, .int 0, .int 0, .int 0, .int 0, .int 0, .int 0, .int 0, .null])) := by rw [eq1]; exact xh_at.newq
  refine gR_of (gq.at f0 (fun w => w)) rfl (cK_of 1 8 (by omega) (by omega) (pV_of q1 (by show 6 < 12; decide) (pV_of q1.set (by show 9 < 12; decide) ⟨0, 0, by omega, by omega, fun p h2 hp eq2 => ?_⟩)))
  have hp1 : p ∉ h1.1 := hp
  have hp0 : p ∉ h.1 := fun w => hp1 (gq.1 p w)
  have npq : q ≠ p := fun w => hp1 (by rw [← w]; exact q1.1)
  have q2 : xh_at h2 q (.inr (2, [.null, .int 0, .int 0, .long 0, .int 0, .int 0, .int 3, .int 0, .int 0, .int (-1), .int 0, .null])) := by rw [eq2]; exact (q1.set.set).new hp
  have p2 : xh_at h2 p (.inr (6, [.int 0, .int 0, .long 0, .long 0, .int 0, .int 0, .int 0, .long 0])) := by rw [eq2]; exact xh_at.newq
  have g2h : xg (fun _ => False) h h2 := by rw [eq2]; exact ((gq.setn hq).setn hq).tr (xg.new hp)
  refine pV_of q2 (by show 11 < 12; decide) (pV_of q2.set (by show 0 < 12; decide) (pV_of q2.set.set (by show 1 < 12; decide) (pV_of q2.set.set.set (by show 2 < 12; decide) (pV_of q2.set.set.set.set (by show 3 < 12; decide) (pV_of q2.set.set.set.set.set (by show 4 < 12; decide) ?_)))))
  have q3 := (((((q2.set (e' := .inr (2, [.null, .int 0, .int 0, .long 0, .int 0, .int 0, .int 3, .int 0, .int 0, .int (-1), .int 0, .ref p]))).set (e' := .inr (2, [.ref (y 0 1), .int 0, .int 0, .long 0, .int 0, .int 0, .int 3, .int 0, .int 0, .int (-1), .int 0, .ref p]))).set (e' := .inr (2, [.ref (y 0 1), .int (nI (n 0)), .int 0, .long 0, .int 0, .int 0, .int 3, .int 0, .int 0, .int (-1), .int 0, .ref p]))).set (e' := .inr (2, [.ref (y 0 1), .int (nI (n 0)), .int z0, .long 0, .int 0, .int 0, .int 3, .int 0, .int 0, .int (-1), .int 0, .ref p]))).set (e' := .inr (2, [.ref (y 0 1), .int (nI (n 0)), .int z0, .long z1, .int 0, .int 0, .int 3, .int 0, .int 0, .int (-1), .int 0, .ref p]))).set (e' := .inr (2, [.ref (y 0 1), .int (nI (n 0)), .int z0, .long z1, .int z2, .int 0, .int 3, .int 0, .int 0, .int (-1), .int 0, .ref p]))
  have p3 := (((((p2.ne (e' := .inr (2, [.null, .int 0, .int 0, .long 0, .int 0, .int 0, .int 3, .int 0, .int 0, .int (-1), .int 0, .ref p])) npq.symm).ne (e' := .inr (2, [.ref (y 0 1), .int 0, .int 0, .long 0, .int 0, .int 0, .int 3, .int 0, .int 0, .int (-1), .int 0, .ref p])) npq.symm).ne (e' := .inr (2, [.ref (y 0 1), .int (nI (n 0)), .int 0, .long 0, .int 0, .int 0, .int 3, .int 0, .int 0, .int (-1), .int 0, .ref p])) npq.symm).ne (e' := .inr (2, [.ref (y 0 1), .int (nI (n 0)), .int z0, .long 0, .int 0, .int 0, .int 3, .int 0, .int 0, .int (-1), .int 0, .ref p])) npq.symm).ne (e' := .inr (2, [.ref (y 0 1), .int (nI (n 0)), .int z0, .long z1, .int 0, .int 0, .int 3, .int 0, .int 0, .int (-1), .int 0, .ref p])) npq.symm).ne (e' := .inr (2, [.ref (y 0 1), .int (nI (n 0)), .int z0, .long z1, .int z2, .int 0, .int 3, .int 0, .int 0, .int (-1), .int 0, .ref p])) npq.symm
  have g3 := (((((g2h.setn (e := .inr (2, [.null, .int 0, .int 0, .long 0, .int 0, .int 0, .int 3, .int 0, .int 0, .int (-1), .int 0, .ref p])) hq).setn (e := .inr (2, [.ref (y 0 1), .int 0, .int 0, .long 0, .int 0, .int 0, .int 3, .int 0, .int 0, .int (-1), .int 0, .ref p])) hq).setn (e := .inr (2, [.ref (y 0 1), .int (nI (n 0)), .int 0, .long 0, .int 0, .int 0, .int 3, .int 0, .int 0, .int (-1), .int 0, .ref p])) hq).setn (e := .inr (2, [.ref (y 0 1), .int (nI (n 0)), .int z0, .long 0, .int 0, .int 0, .int 3, .int 0, .int 0, .int (-1), .int 0, .ref p])) hq).setn (e := .inr (2, [.ref (y 0 1), .int (nI (n 0)), .int z0, .long z1, .int 0, .int 0, .int 3, .int 0, .int 0, .int (-1), .int 0, .ref p])) hq).setn (e := .inr (2, [.ref (y 0 1), .int (nI (n 0)), .int z0, .long z1, .int z2, .int 0, .int 3, .int 0, .int 0, .int (-1), .int 0, .ref p])) hq
  have RI := R.z g3
  have l0' := RI.2.2.2.1.1
  have nal : ∀ {x j0 : Nat}, 12 ≤ j0 → j0 ≤ 18 → x ∉ h.1 → ¬ alS (y 0 j0) (y 15 j0) (cp j0) x := by
    rintro x j0 a1 a2 hx (rfl | ⟨rfl, e⟩)
    · exact hx (R.lyin (ly0 a2))
    · exact hx (R.lyin (ly15 a1 a2 e))
  refine nN_of (l0'.isO (cK_of 1 (if n 0 = cp 12 then al_cap (cp 12) else 0) (by omega) (by omega) (s_add l0' ⟨2, _, by omega, q3⟩ (by have := hcp 12; omega) (fun z => ⟨Nat.le_refl _, by rw [if_pos z]; exact Nat.le_refl _⟩) (fun h4 d1 c1 al1 ga1 hd1 => ?_))))
  have f0' := ga1.at RI.2.2.1.1 (alS.no RI (by omega) (by omega) (ly0 (by omega)) (by omega) (by omega))
  have f2' := ga1.at RI.2.2.1.2.2.1 (alS.no RI (by omega) (by omega) (ly0 (by omega)) (by omega) (by omega))
  obtain ⟨-, Pl, -, -, -, -, -, -, -, -⟩ := RI.app (j0 := 12) (by omega) (by omega) ga1
  refine gR_of f0' rfl (nN_of (gR_of f2' rfl ⟨kc - 1 - 1 - 1 - 1, ks - 12 - 8 - (if n 0 = cp 12 then al_cap (cp 12) else 0) - 2, by omega, by omega, fun a h5 ha eq5 => ?_⟩))
  have a5 : xh_at h5 a (.inr (1, [.long 0, .int 0])) := by rw [eq5]; exact xh_at.newq
  have g5 : xg (fun _ => False) h4 h5 := by rw [eq5]; exact xg.new ha
  have ha0 : a ∉ h.1 := fun w => ha (ga1.1 _ (g3.1 _ w))
  refine pV_of a5 (by show 0 < 2; decide) ?_
  have g6 := g5.setn (e := .inr (1, [.long z3, .int 0])) ha
  have a6 := a5.set (e' := .inr (1, [.long z3, .int 0]))
  have l5 := (Pl 17 _ _ (by omega) (by omega) (by omega) RI.2.2.2.1.2.2.2.2.2.1).g2 g6 (fun x ⟨ci, fs, o1, o2⟩ => ⟨ci, fs, o1, g6.at o2 (fun w => w)⟩) (fun w => w) (fun _ w => w)
  refine nN_of (l5.isO (cK_of 1 (if n 0 = cp 17 then al_cap (cp 17) else 0) (by omega) (by omega) (s_add l5 ⟨1, _, by omega, a6⟩ (by have := hcp 17; omega) (fun z => ⟨Nat.le_refl _, by rw [if_pos z]; exact Nat.le_refl _⟩) (fun h7 d2 c2 al2 ga2 hd2 => ?_))))
  have gT : xg (fun x => ∃ j, (j = 12 ∨ j = 17) ∧ alS (y 0 j) (y 15 j) (cp j) x) h h7 := (g3.mono (fun _ _ w => w.elim)).tr ((ga1.mono (fun x _ w => ⟨12, Or.inl rfl, w⟩)).tr ((g6.mono (fun _ _ w => w.elim)).tr (ga2.mono (fun x _ w => ⟨17, Or.inr rfl, w⟩))))
  have q7 := ga2.at (g6.at (ga1.at q3 (nal (by omega) (by omega) hq)) (fun w => w)) (nal (by omega) (by omega) hq)
  have p7 := ga2.at (g6.at (ga1.at p3 (nal (by omega) (by omega) hp0)) (fun w => w)) (nal (by omega) (by omega) hp0)
  have a7 := ga2.at a6 (nal (by omega) (by omega) ha0)
  have ho2 : ∀ x, xo_at (xh_set h5 a (.inr (1, [.long z3, .int 0]))) x → xo_at h7 x := by
    intro x ⟨ci, fs, o1, o2⟩
    refine ⟨ci, fs, o1, ga2.at o2 ?_⟩
    obtain ⟨md, b1, b2, b3⟩ := l5
    rintro (rfl | ⟨rfl, e⟩)
    · have := o2.2.symm.trans b1.2
      injection this with z; injection z with z; omega
    · rcases b3 with ⟨z, _⟩ | ⟨_, f, b4, _⟩
      · exact e z
      · have := o2.2.symm.trans b4.2
        cases this
  have al1' := (al1.g2 g6 (fun x ⟨ci, fs, o1, o2⟩ => ⟨ci, fs, o1, g6.at o2 (fun w => w)⟩) (fun w => w) (fun _ w => w)).g2 ga2 ho2 (alS.no R (by omega) (by omega) (ly0 (by omega)) (by omega) (by omega)) (fun _ => by
    rcases hd1 with ⟨b1, b2, b3⟩ | ⟨b1, b2, b3⟩
    · rw [b2]; exact alS.no R (by omega) (by omega) (ly15 (by omega) (by omega) (by omega)) (by omega) (by omega)
    · rintro (rfl | ⟨rfl, e⟩)
      · exact b2 (g3.1 _ (R.lyin (ly0 (by omega))))
      · exact b2 (g3.1 _ (R.lyin (ly15 (by omega) (by omega) e))))
  have hd1' : (n 0 < cp 12 ∧ d1 = y 15 12 ∧ c1 = cp 12) ∨ (n 0 = cp 12 ∧ d1 ∉ h.1 ∧ c1 = al_cap (cp 12)) := by
    rcases hd1 with b | ⟨b1, b2, b3⟩
    · exact Or.inl b
    · exact Or.inr ⟨b1, fun w => b2 (g3.1 _ w), b3⟩
  have hd2' : (n 0 < cp 17 ∧ d2 = y 15 17 ∧ c2 = cp 17) ∨ (n 0 = cp 17 ∧ d2 ∉ h.1 ∧ c2 = al_cap (cp 17)) := by
    rcases hd2 with b | ⟨b1, b2, b3⟩
    · exact Or.inl b
    · exact Or.inr ⟨b1, fun w => b2 (g6.1 _ (ga1.1 _ (g3.1 _ w))), b3⟩
  obtain ⟨R7, g7⟩ := R.newc (z0 := z0) (z1 := z1) (z2 := z2) (z3 := z3) h16 (w.2.2.2.2.2.2.2.2.1 (n 0) (Nat.le_refl _) h16) gT hq hp0 ha0 q7 p7 a7 al1' al2 hd1' hd2'
  have ec1 : c1 = alC (n 0) (cp 12) := by
    unfold alC
    rcases hd1 with ⟨w1, w2, w3⟩ | ⟨w1, w2, w3⟩
    · rw [if_neg (by omega)]; exact w3
    · rw [if_pos w1]; exact w3
  have ec2 : c2 = alC (n 0) (cp 17) := by
    unfold alC
    rcases hd2 with ⟨w1, w2, w3⟩ | ⟨w1, w2, w3⟩
    · rw [if_neg (by omega)]; exact w3
    · rw [if_pos w1]; exact w3
  rw [ec1, ec2] at R7
  exact hQ h7 _ R7 rfl g7
end CARD2
