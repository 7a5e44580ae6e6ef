/-! purchase -/
def pP (s : MS) (t : Nat) (d am : Int64) (pin c : Int32) : MS := mA (mA (mL (mL (mA (mL s 39 t d) 40 t 0) 45 t d) 44 t am) 46 t pin) 43 t c
def z3 (s : MS) (t : Nat) : MS := mA (mA (mA s 47 t 0) 49 t 0) 50 t 0
def drw (v : Int64) : Int64 := ((v * 1103515245) + 12345) - ((v * 1103515245) + 12345) / 2147483648 * 2147483648
section PURCH
variable {E : Ev} {A S : Nat → Prop} {h h' : Hp} {y y' : Nat → Nat → Nat} {s s' : MS} {n cp n' cp' : Nat → Nat} {i u k m kc ks t c : Nat} {r : Int32}
theorem lieA_mA {so nu oso onu sz v : Int32} {B : Nat → Int32} {k j : Nat} (hk : 12 < k) : lieA (mA s k j v) so nu oso onu sz B = mA (lieA s so nu oso onu sz B) k j v := by
  have e : (lieA (mA s k j v) so nu oso onu sz B).2.2.1 = (mA (lieA s so nu oso onu sz B) k j v).2.2.1 := by
    funext q
    have k7 : 7 ≠ k := by omega
    have k8 : 8 ≠ k := by omega
    have k9 : 9 ≠ k := by omega
    have k10 : 10 ≠ k := by omega
    have k11 : 11 ≠ k := by omega
    have k12 : 12 ≠ k := by omega
    by_cases z : q = k
    · subst z
      simp [lieA, mA, mI, sB, va_up, k7.symm, k8.symm, k9.symm, k10.symm, k11.symm, k12.symm]
    · simp [lieA, mA, mI, sB, va_up, z, k7, k8, k9, k10, k11, k12]
  exact congrArg (fun z => (((lieA s so nu oso onu sz B).1, s.2.1, z, s.2.2.2) : MS)) e
theorem SendR.mA {k1 : Nat} {so nu oso onu v : Int32} {g : Nat → Int64} {k j : Nat} (hS : SendR s k1 so nu oso onu g n r s' n') (hk : 12 < k) : SendR (mA s k j v) k1 so nu oso onu g n r (mA s' k j v) n' := by
  rcases hS with ⟨a1, a2, rfl, a3⟩ | ⟨a1, a2, a3, B, rfl, b1, b2⟩
  · exact Or.inl ⟨a1, a2, rfl, a3⟩
  · refine Or.inr ⟨a1, a2, a3, B, (lieA_mA hk).symm, b1, fun a ha => ?_⟩
    rw [b2 a ha]
    show _ = va_up s.2.2.1 k _ 12 a
    rw [va_up_ne _ _ (by omega)]
theorem tg1 : ∀ t, t ≤ 11 → hasK 1 t = true → t = 4 := by decide +kernel
theorem W2.pP (w : W2 i u s n) (ht : t < n 1) (hc : c < n 0) (d am : Int64) (pin : Int32) : W2 i u (pP s t d am pin (nI c)) n := by
  have e41 : (Jvm.Pilot.CCardPaymentsLaw_law_r5056_c0c8e4.pP s t d am pin (nI c)).2.2.1 41 t = s.2.2.1 41 t := by simp [Jvm.Pilot.CCardPaymentsLaw_law_r5056_c0c8e4.pP, mA, mL, va_up]
  have e43 : (Jvm.Pilot.CCardPaymentsLaw_law_r5056_c0c8e4.pP s t d am pin (nI c)).2.2.1 43 t = nI c := by simp [Jvm.Pilot.CCardPaymentsLaw_law_r5056_c0c8e4.pP, mA, mL, va_up, upd]
  have e47 : (Jvm.Pilot.CCardPaymentsLaw_law_r5056_c0c8e4.pP s t d am pin (nI c)).2.2.1 47 t = s.2.2.1 47 t := by simp [Jvm.Pilot.CCardPaymentsLaw_law_r5056_c0c8e4.pP, mA, mL, va_up]
  refine w.tm ht rfl rfl (fun j hj => by simp [tmv, Jvm.Pilot.CCardPaymentsLaw_law_r5056_c0c8e4.pP, mA, mL, va_up, upd, vp_updL, hj]) (fun q => ?_)
  rw [e41] at q ⊢
  rw [e43, e47]
  obtain ⟨_, h2, h3⟩ := w.2.2.2.2.2.1 t ht q
  exact ⟨⟨c, hc, rfl⟩, h2, h3⟩
theorem W2.pur (w : W2 i u s n) (cc k t ww a : Int32) (am un : Int64) : W2 (i + 1) u (purS s n cc k am un t ww a) (va_up n 5 (n 5 + 1)) := by
  obtain ⟨⟨c0, c1, c2, c3, c4, c5, c6, c7, c8⟩, w⟩ := w
  exact ⟨⟨c0, c1, c2, ⟨c3.1, by show n 3 ≤ i + 1; omega⟩, c4, ⟨rfl, by show n 5 + 1 ≤ i + 1; omega⟩, ⟨c6.1, by show n 6 ≤ i + 1; omega⟩, ⟨c7.1, by show n 7 ≤ i + 1; omega⟩, c8⟩, w⟩
theorem purS_43 {m : Nat → Nat} (cc k t ww a : Int32) (am un : Int64) : (purS s m cc k am un t ww a).2.2.1 = s.2.2.1 := rfl
theorem purS_44 {m : Nat → Nat} (cc k t ww a : Int32) (am un : Int64) : (purS s m cc k am un t ww a).2.2.2 44 = s.2.2.2 44 ∧ (purS s m cc k am un t ww a).2.2.2 45 = s.2.2.2 45 ∧ (purS s m cc k am un t ww a).2.2.2 18 = s.2.2.2 18 := ⟨rfl, rfl, rfl⟩
theorem pP_44 (s : MS) (t : Nat) (d am : Int64) (pin c : Int32) : (pP s t d am pin c).2.2.2 44 t = am ∧ (pP s t d am pin c).2.2.2 45 t = d ∧ (pP s t d am pin c).2.2.2 18 = s.2.2.2 18 ∧ (pP s t d am pin c).2.2.1 43 t = c := by
  refine ⟨?_, ?_, rfl, ?_⟩ <;> simp [pP, mA, mL, va_up, upd, vp_updL]
theorem M_purchase_eq {am : Int64} {pin : Int32} (h21 : s.1 21 = nI (n 0)) (h36 : s.1 36 = nI (n 1)) (h57 : s.1 57 = nI (n 5)) (hn0 : n 0 ≤ 16) (hn1 : n 1 ≤ 8) (hn5 : n 5 < 512) (ht : t < n 1) (hc : c < n 0) (q1 : wi am 1 1000000000) (q2 : wi pin.toInt64 0 9999) : M_purchase s (nI t) (nI c) am pin = (M_toItsCard (mL (purS (pP s t (drw (s.2.2.2 39 t)) am pin (nI c)) n 0 0 am (drw (s.2.2.2 39 t)) (nI t) 0 0) 18 4 (drw (s.2.2.2 39 t))) (nI t) 1 2).bind fun s47 => some ((s47.2.2.2 45 t).toInt32, s47) := by
  have cc : (nI t).toNatClampNeg = t := nI_clamp (by omega)
  have cb : (nI t < 0 ∨ 8 ≤ t) = False := ixF (by omega) (by omega)
  have i0 : (3 : Int32) * nI (n 5) = nI (3 * n 5) := pk_mul 3 _
  have i1 : nI (3 * n 5) + 1 = nI (3 * n 5 + 1) := nI_1 _
  have i2 : nI (3 * n 5) + 2 = nI (3 * n 5 + 2) := nI_add _ 2
  have j0 : (nI (3 * n 5)).toNatClampNeg = 3 * n 5 := nI_clamp (by omega)
  have j1 : (nI (3 * n 5 + 1)).toNatClampNeg = 3 * n 5 + 1 := nI_clamp (by omega)
  have j2 : (nI (3 * n 5 + 2)).toNatClampNeg = 3 * n 5 + 2 := nI_clamp (by omega)
  have b0 : (nI (3 * n 5) < 0 ∨ 1800 ≤ 3 * n 5) = False := ixF (by omega) (by omega)
  have b1 : (nI (3 * n 5 + 1) < 0 ∨ 1800 ≤ 3 * n 5 + 1) = False := ixF (by omega) (by omega)
  have b2 : (nI (3 * n 5 + 2) < 0 ∨ 1800 ≤ 3 * n 5 + 2) = False := ixF (by omega) (by omega)
  unfold M_purchase
  rw [if_neg (nI_pos (by omega)), h36, if_neg (nI_ge ht (by omega)), if_neg (nI_pos (by omega)), h21, if_neg (nI_ge hc (by omega)), (M_isIn_eq s am 1 1000000000).1 q1, Option.bind_some, lt1_e, lt1_e, if_neg (show ¬ (1 : Int32) = 0 by decide), (M_isIn_eq s pin.toInt64 0 9999).1 q2, Option.bind_some, lt1_e, lt1_e, if_neg (show ¬ (1 : Int32) = 0 by decide)]
  have e39 : ∀ (z : MS) (j : Nat) (v : Int64), (mL z 39 j v).2.2.2 39 j = v := fun z j v => by simp [mL, va_up, vp_updL]
  have e45 : ∀ (z : MS) (j : Nat) (v : Int64), (mL z 45 j v).2.2.2 45 j = v := fun z j v => by simp [mL, va_up, vp_updL]
  have m44 : ∀ (z : MS) (j : Nat) (v : Int64), (mL z 44 j v).2.2.2 45 = z.2.2.2 45 := fun _ _ _ => rfl
  have m58 : ∀ (z : MS) (j : Nat) (v : Int64), (mL z 58 j v).2.2.2 45 = z.2.2.2 45 := fun _ _ _ => rfl
  have mI57 : ∀ (z : MS) (v : Int32), (mI z 57 v).2.2.2 45 = z.2.2.2 45 := fun _ _ => rfl
  simp only [lt1_e, cc, cb, if_false, tC4, tB4, mL_I, mA_I, mA_L, e39, e45, m44, m58, mI57, h57, i0, i1, i2, j0, j1, j2, b0, b1, b2, nI_1]
  rfl
end PURCH
