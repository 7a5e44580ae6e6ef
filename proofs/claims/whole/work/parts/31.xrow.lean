/-! the class's seals: the row to be sealed -/
theorem row_get {l : List Int64} {v : Int64} {g : Nat → Int64} (h : ∀ i, i < l.length → g i = l.getD i 0) : ∀ i, i < (l ++ [v]).length → vp_updL g l.length v i = (l ++ [v]).getD i 0 := by
  intro i hi
  rw [List.length_append] at hi
  by_cases e : i = l.length
  · subst e
    rw [pk_uLs, List.getD_eq_getElem?_getD, List.getElem?_append_right (Nat.le_refl _)]
    simp
  · have hl : i < l.length := by simp at hi; omega
    rw [pk_uLn e, h i hl, List.getD_eq_getElem?_getD, List.getD_eq_getElem?_getD, List.getElem?_append_left hl]
def rowP (k j : Nat) : Prop := k = 0 ∧ (j = 4 ∨ j = 11)
/-- since h0 only the row to be sealed has changed: its key is so, nu, its numbers l -/
def RS (E : Ev) (A : Nat → Prop) (h0 h : Hp) (y : Nat → Nat → Nat) (s : MS) (n cp : Nat → Nat) (so nu : Nat) (l : List Int64) : Prop :=
  RXo E A h y s n cp ∧ xg (YS y n cp rowP) h0 h ∧ ∃ g, SRow E h y so nu l.length g ∧ ∀ i, i < l.length → g i = l.getD i 0
section ROW
variable {E : Ev} {A : Nat → Prop} {h h0 : Hp} {y : Nat → Nat → Nat} {s : MS} {n cp : Nat → Nat} {so nu : Nat} {l : List Int64}
theorem s_key {Q : Option Nat → Hp → Prop} (R : RXo E A h y s n cp) (hQ : ∀ h', RS E A h h' y s n cp so nu [] → Q (some (y 0 4)) h') : isO h (y 0 4) 8 (m_X7_key E (y 0 4) (nI so) (nI nu) h 0 0 Q) := by
  obtain ⟨-, -, -, -, -, ⟨z0, z1, z2, f5⟩, ⟨g6, f6⟩, -⟩ := id R.2.2.1
  refine isO_of f5 (pV_of f5 (by show 3 < 5; decide) (pV_of f5.set (by show 4 < 5; decide) (pV_of f5.set.set (by show 2 < 5; decide) ?_)))
  have R3 := ((R.tmp (j := 4) (e := .inr (8, [.ref (y 0 16), .ref (y 0 11), .int z0, .int (nI so), .int z2])) (Or.inl ⟨rfl, _, _, _, rfl⟩)).tmp (j := 4) (e := .inr (8, [.ref (y 0 16), .ref (y 0 11), .int z0, .int (nI so), .int (nI nu)])) (Or.inl ⟨rfl, _, _, _, rfl⟩)).tmp (j := 4) (e := .inr (8, [.ref (y 0 16), .ref (y 0 11), .int 0, .int (nI so), .int (nI nu)])) (Or.inl ⟨rfl, _, _, _, rfl⟩)
  refine hQ _ ⟨R3, ?_, g6, ⟨f5.set.set.set, ?_⟩, fun i hi => absurd hi (Nat.not_lt_zero _)⟩
  · exact ((YS.st (ly0 (by omega)) ⟨rfl, Or.inl rfl⟩).tr (YS.st (ly0 (by omega)) ⟨rfl, Or.inl rfl⟩)).tr (YS.st (ly0 (by omega)) ⟨rfl, Or.inl rfl⟩)
  · have ne : y 0 11 ≠ y 0 4 := R.1.ne (ly0 (by omega)) (ly0 (by omega)) (by omega)
    exact ((f6.ne ne).ne ne).ne ne
theorem s_with {v : Int64} {Q : Option Nat → Hp → Prop} (S : RS E A h0 h y s n cp so nu l) (hl : l.length < 8) (hQ : ∀ h', RS E A h0 h' y s n cp so nu (l ++ [v]) → Q (some (y 0 4)) h') : nN (some (y 0 4)) fun a => isO h a 8 (m_X7_with E a v h 0 0 Q) := by
  obtain ⟨R, g0, g, ⟨r1, r2⟩, hg⟩ := S
  refine nN_of (isO_of r1 (gI_of r1 rfl ⟨fun q => absurd q (show ¬ (8 : Int32) ≤ nI l.length from nI_ge (b := 8) hl (by omega)), fun _ => gR_of r1 rfl (gI_of r1 rfl (nN_of (sL_of r2 rfl hl (by omega) ?_)))⟩))
  have ne : y 0 4 ≠ y 0 11 := R.1.ne (ly0 (by omega)) (ly0 (by omega)) (by omega)
  have r1' := r1.ne (e' := .inl (E.1 1, 8, .inr (.inl (vp_updL g l.length v)))) ne
  refine gI_of r1' rfl (pV_of r1' (by show 2 < 5; decide) ?_)
  have R2 := (R.tmp (j := 11) (e := .inl (E.1 1, 8, .inr (.inl (vp_updL g l.length v)))) (Or.inr (Or.inl ⟨rfl, _, rfl⟩))).tmp (j := 4) (e := .inr (8, [.ref (y 0 16), .ref (y 0 11), .int (nI l.length + 1), .int (nI so), .int (nI nu)])) (Or.inl ⟨rfl, _, _, _, rfl⟩)
  refine hQ _ ⟨R2, (g0.tr (YS.st (ly0 (by omega)) ⟨rfl, Or.inr rfl⟩)).tr (YS.st (ly0 (by omega)) ⟨rfl, Or.inl rfl⟩), vp_updL g l.length v, ⟨?_, r2.set.ne (fun z => ne z.symm)⟩, row_get hg⟩
  rw [List.length_append, show nI (l.length + [v].length) = nI l.length + 1 from (nI_1 _).symm]
  exact r1'.set
theorem RS.pay (S : RS E A h0 h y s n cp so nu l) (R0 : RXo E A h0 y s n cp) {p : Nat} {fs : List Value} (hp : xh_at h0 p (.inr (6, fs))) : xh_at h p (.inr (6, fs)) := R0.pay S.2.1 hp
theorem RS.at (S : RS E A h0 h y s n cp so nu l) (R0 : RXo E A h0 y s n cp) {k j : Nat} {e : va_E} (hl : lyv n cp k j) (hp : ¬ rowP k j) (hx : xh_at h0 (y k j) e) : xh_at h (y k j) e := YS.k R0.1 S.2.1 hl hp hx
/-- seals' keys and rows, made from a payment -/
theorem s_ofCard {c : Nat} {v : Int64} {kc ks : Nat} {Q : Option Nat → Hp → Prop} (R : RXo E A h y s n cp) (z : Int32) (hQ : ∀ h', RS E A h h' y s n cp 0 c [2, (nI c).toInt64, z.toInt64, v] → Q (some (y 0 4)) h') : m_X7_ofCard E (y 0 4) (nI c) z v h kc ks Q :=
  s_key R (fun h1 S1 => s_with S1 (by simp) (fun h2 S2 => s_with S2 (by simp) (fun h3 S3 => s_with S3 (by simp) (fun h4 S4 => s_with S4 (by simp) (fun h5 S5 => hQ h5 S5)))))
theorem s_ofWordToCard {c : Nat} {z w : Int32} {kc ks : Nat} {Q : Option Nat → Hp → Prop} (R : RXo E A h y s n cp) (hQ : ∀ h', RS E A h h' y s n cp 2 c [8, (nI c).toInt64, z.toInt64, w.toInt64] → Q (some (y 0 4)) h') : m_X7_ofWordToCard E (y 0 4) (nI c) z w h kc ks Q :=
  s_key R (fun h1 S1 => s_with S1 (by simp) (fun h2 S2 => s_with S2 (by simp) (fun h3 S3 => s_with S3 (by simp) (fun h4 S4 => s_with S4 (by simp) (fun h5 S5 => hQ h5 S5)))))
theorem s_ofAnswer {p c : Nat} {k t w a : Int32} {am un sl : Int64} {kc ks : Nat} {Q : Option Nat → Hp → Prop} (R : RXo E A h y s n cp) (hp : PAY h p (nI c) k am un t w a sl) (hQ : ∀ h', RS E A h h' y s n cp 0 c [6, a.toInt64, am, un, t.toInt64, k.toInt64, w.toInt64] → Q (some (y 0 4)) h') : m_X7_ofAnswer E (y 0 4) (some p) h kc ks Q :=
  nN_of (gI_of hp rfl (s_key R (fun h1 S1 => s_with S1 (by simp) (fun h2 S2 => gI_of (S2.pay R hp) rfl (s_with S2 (by simp) (fun h3 S3 => gL_of (S3.pay R hp) rfl (s_with S3 (by simp) (fun h4 S4 => gL_of (S4.pay R hp) rfl (s_with S4 (by simp) (fun h5 S5 => gI_of (S5.pay R hp) rfl (s_with S5 (by simp) (fun h6 S6 => gI_of (S6.pay R hp) rfl (s_with S6 (by simp) (fun h7 S7 => gI_of (S7.pay R hp) rfl (s_with S7 (by simp) (fun h8 S8 => hQ h8 S8))))))))))))))))
theorem s_ofLast {p c : Nat} {k t w a b : Int32} {am un sl : Int64} {kc ks : Nat} {Q : Option Nat → Hp → Prop} (R : RXo E A h y s n cp) (hp : PAY h p (nI c) k am un t w a sl) (hQ : ∀ h', RS E A h h' y s n cp 0 c [10, b.toInt64, am, un, t.toInt64, k.toInt64] → Q (some (y 0 4)) h') : m_X7_ofLast E (y 0 4) (some p) b h kc ks Q :=
  nN_of (gI_of hp rfl (s_key R (fun h1 S1 => s_with S1 (by simp) (fun h2 S2 => s_with S2 (by simp) (fun h3 S3 => gL_of (S3.pay R hp) rfl (s_with S3 (by simp) (fun h4 S4 => gL_of (S4.pay R hp) rfl (s_with S4 (by simp) (fun h5 S5 => gI_of (S5.pay R hp) rfl (s_with S5 (by simp) (fun h6 S6 => gI_of (S6.pay R hp) rfl (s_with S6 (by simp) (fun h7 S7 => hQ h7 S7)))))))))))))
theorem s_ofTerminal {p t : Nat} {c k w a kd : Int32} {am un sl : Int64} {kc ks : Nat} {Q : Option Nat → Hp → Prop} (R : RXo E A h y s n cp) (hp : PAY h p c k am un (nI t) w a sl) (hQ : ∀ h', RS E A h h' y s n cp 1 t [kd.toInt64, c.toInt64, k.toInt64, am, un, (nI t).toInt64, w.toInt64, sl] → Q (some (y 0 4)) h') : m_X7_ofTerminal E (y 0 4) kd (some p) h kc ks Q :=
  nN_of (gI_of hp rfl (s_key R (fun h1 S1 => s_with S1 (by simp) (fun h2 S2 => gI_of (S2.pay R hp) rfl (s_with S2 (by simp) (fun h3 S3 => gI_of (S3.pay R hp) rfl (s_with S3 (by simp) (fun h4 S4 => gL_of (S4.pay R hp) rfl (s_with S4 (by simp) (fun h5 S5 => gL_of (S5.pay R hp) rfl (s_with S5 (by simp) (fun h6 S6 => gI_of (S6.pay R hp) rfl (s_with S6 (by simp) (fun h7 S7 => gI_of (S7.pay R hp) rfl (s_with S7 (by simp) (fun h8 S8 => gL_of (S8.pay R hp) rfl (s_with S8 (by simp) (fun h9 S9 => hQ h9 S9))))))))))))))))))
theorem s_ofWordToTerminal {p t : Nat} {c k w a wd : Int32} {am un sl : Int64} {kc ks : Nat} {Q : Option Nat → Hp → Prop} (R : RXo E A h y s n cp) (hp : PAY h p c k am un (nI t) w a sl) (hQ : ∀ h', RS E A h h' y s n cp 1 t [8, c.toInt64, k.toInt64, wd.toInt64, am] → Q (some (y 0 4)) h') : m_X7_ofWordToTerminal E (y 0 4) (some p) wd h kc ks Q :=
  nN_of (gI_of hp rfl (s_key R (fun h1 S1 => s_with S1 (by simp) (fun h2 S2 => gI_of (S2.pay R hp) rfl (s_with S2 (by simp) (fun h3 S3 => gI_of (S3.pay R hp) rfl (s_with S3 (by simp) (fun h4 S4 => s_with S4 (by simp) (fun h5 S5 => gL_of (S5.pay R hp) rfl (s_with S5 (by simp) (fun h6 S6 => hQ h6 S6)))))))))))
end ROW
