/-! a card's answer: sealed and sent -/
theorem va_upC {α : Type} {f : Nat → α} {k j : Nat} {a b : α} (h : k ≠ j) : va_up (va_up f k a) j b = va_up (va_up f j b) k a := by
  funext x
  by_cases e : x = k
  · subst e; rw [va_up_ne _ _ h, va_up_self, va_up_self]
  · by_cases e2 : x = j
    · subst e2; rw [va_up_self, va_up_ne _ _ e, va_up_self]
    · rw [va_up_ne _ _ e2, va_up_ne _ _ e, va_up_ne _ _ e, va_up_ne _ _ e2]
section TAIL
variable {E : Ev} {A : Nat → Prop} {h : Hp} {y : Nat → Nat → Nat} {s s' : MS} {n cp n' cp' : Nat → Nat} {kd fs fr : Int32} {cf gf : Nat → Int64} {i u c : Nat} {r : Int32}
theorem SealR.mA {key : Int32} {rs : Nat} {g : Nat → Int64} (hS : SealR s key rs g n cp r s' n' cp') (k j : Nat) (v : Int32) (h1 : k ≠ 1) (h2 : k ≠ 2) : SealR (mA s k j v) key rs g n cp r (mA s' k j v) n' cp' := by
  have em : ∀ j', mq (Jvm.Pilot.CCardPaymentsLaw_law_r5056_c0c8e4.mA s k j v) key rs g j' ↔ mq s key rs g j' := by
    intro j'
    unfold mq Jvm.Pilot.CCardPaymentsLaw_law_r5056_c0c8e4.mA
    dsimp only
    rw [va_up_ne _ _ (Ne.symm h1), va_up_ne _ _ (Ne.symm h2)]
  rcases hS with ⟨q, a1, a2, a3, a4, rfl, a5⟩ | ⟨a1, a2, rfl, a5⟩
  · exact Or.inl ⟨q, a1, (em q).mpr a2, fun k' hk z => a3 k' hk ((em k').mp z), a4, rfl, a5⟩
  · refine Or.inr ⟨fun k' hk z => a1 k' hk ((em k').mp z), a2, ?_, a5⟩
    unfold sealN Jvm.Pilot.CCardPaymentsLaw_law_r5056_c0c8e4.mA
    dsimp only
    rw [va_up_ne _ _ (Ne.symm h1), va_up_ne _ _ (Ne.symm h2), va_up_ne _ _ h2, va_up_ne _ _ h1, va_upC (k := 2) (j := k) (Ne.symm h2), va_upC (k := 1) (j := k) (Ne.symm h1)]
theorem SealR.mL {key : Int32} {rs : Nat} {g : Nat → Int64} (hS : SealR s key rs g n cp r s' n' cp') (k j : Nat) (v : Int64) (h3 : k ≠ 3) : SealR (mL s k j v) key rs g n cp r (mL s' k j v) n' cp' := by
  have em : ∀ j', mq (Jvm.Pilot.CCardPaymentsLaw_law_r5056_c0c8e4.mL s k j v) key rs g j' ↔ mq s key rs g j' := by
    intro j'
    unfold mq Jvm.Pilot.CCardPaymentsLaw_law_r5056_c0c8e4.mL
    dsimp only
    rw [va_up_ne _ _ (Ne.symm h3)]
  rcases hS with ⟨q, a1, a2, a3, a4, rfl, a5⟩ | ⟨a1, a2, rfl, a5⟩
  · exact Or.inl ⟨q, a1, (em q).mpr a2, fun k' hk z => a3 k' hk ((em k').mp z), a4, rfl, a5⟩
  · refine Or.inr ⟨fun k' hk z => a1 k' hk ((em k').mp z), a2, ?_, a5⟩
    unfold sealN Jvm.Pilot.CCardPaymentsLaw_law_r5056_c0c8e4.mL
    dsimp only
    rw [va_up_ne _ _ (Ne.symm h3), va_up_ne _ _ h3, va_upC (k := 3) (j := k) (Ne.symm h3)]
theorem SealR.mI {key : Int32} {rs : Nat} {g : Nat → Int64} (hS : SealR s key rs g n cp r s' n' cp') (k : Nat) (v : Int32) (h0 : k ≠ 0) : SealR (mI s k v) key rs g n cp r (mI s' k v) n' cp' := by
  rcases hS with ⟨q, a1, a2, a3, a4, rfl, a5⟩ | ⟨a1, a2, rfl, a5⟩
  · exact Or.inl ⟨q, a1, a2, a3, a4, rfl, a5⟩
  · refine Or.inr ⟨a1, a2, ?_, a5⟩
    unfold sealN Jvm.Pilot.CCardPaymentsLaw_law_r5056_c0c8e4.mI
    dsimp only
    have e : va_up s.1 k v 0 = s.1 0 := va_up_ne _ _ (Ne.symm h0)
    simp only [e]
    rw [va_upC (k := 0) (j := k) (Ne.symm h0)]
theorem SealR.nn {key : Int32} {rs : Nat} {g : Nat → Int64} (hS : SealR s key rs g n cp r s' n' cp') (k j x z : Nat) (h4 : k ≠ 4) (h16 : j ≠ 16) : SealR s key rs g (va_up n k x) (va_up cp j z) r s' (va_up n' k x) (va_up cp' j z) := by
  have e4 : va_up n k x 4 = n 4 := va_up_ne _ _ (Ne.symm h4)
  have e16 : va_up cp j z 16 = cp 16 := va_up_ne _ _ (Ne.symm h16)
  unfold SealR
  rw [e4, e16]
  rcases hS with ⟨q, a1, a2, a3, a4, a5, rfl, rfl⟩ | ⟨a1, a2, a3, rfl, rfl⟩
  · exact Or.inl ⟨q, a1, a2, a3, a4, a5, rfl, rfl⟩
  · exact Or.inr ⟨a1, a2, a3, va_upC (Ne.symm h4), va_upC (Ne.symm h16)⟩
/-- the seal goes into field 8, and the answer to whoever asked -/
theorem s_tail {h0 : Hp} {k : Nat} {l : List Int64} {s3 sM s4 : MS} {n3 cp3 n4 : Nat → Nat} {r3 r4 : Int32} {v : Nat → Int64} {kc ks : Nat} {Q : Int32 → Hp → Prop} (X : CX E A h y s n cp kd fs fr cf gf) (S : RS E A h0 h y s n cp 0 c l) (hl : l.length ≤ 8) (hc : c < n 0) (hn4 : n 4 < 2048)
    (hS3 : SealR s (nI (256 * 0 + c)) l.length (fun i => l.getD i 0) n cp r3 s3 n3 cp3) (hv : vis sM = vis s3) (w3 : W2 i u sM n3) (hk : 1 ≤ k ∧ k < 12) (hS4 : SendR sM k 0 (nI c) fs fr v n3 r4 s4 n4) (he : ∀ t, 1 ≤ t → t ≤ 11 → hasK k t = true → vp_updL gf 8 r3.toInt64 t = v t) (k1 : Fc n ≤ kc + Fc n4) (k2 : Fs n cp ≤ ks + Fs n4 cp3)
    (hQ : ∀ h' y', RXo E A h' y' s4 n4 cp3 → y' 0 0 = y 0 0 → xg A h h' → Q 1 h') :
    nN (some (y 0 4)) fun a => isO h a 8 (cK kc ks fun mc97 ms98 kc99 ks100 => m_X7_seal E a h mc97 ms98 (fun y101 h102 => nN (some (y 0 8)) fun a105 => sL E h102 1 a105 8 y101 fun h106 => isO h106 (y 3 c) 2 (cK kc99 ks100 fun mc108 ms109 kc110 ks111 => m_X1_reply E (y 3 c) (some (y 0 5)) (nI k) h106 mc108 ms109 (fun h113 => Q 1 h113)))) := by
  have hn0 := X.1.2.1.1.2
  have hn2 := X.1.2.1.2.2.1
  obtain ⟨F1, F2, F3, F4⟩ := hS3.F hn4 X.1.2.1.2.2.2.2.2.2.2.2.2.2
  have hn32 : n3 2 = n 2 := F4 2 (by omega)
  have hn39 : n3 9 = n 9 := F4 9 (by omega)
  have hn30 : n3 0 = n 0 := F4 0 (by omega)
  obtain ⟨G1, G2, G3, G4⟩ := hS4.F (cp := cp3) (by omega)
  obtain ⟨-, -, -, -, -, ⟨z0, z1, z2, f5'⟩, -⟩ := id X.1.2.2.1
  refine nN_of (isO_of f5' (cK_of (Fc n - Fc n3) (Fs n cp - Fs n3 cp3) (by omega) (by omega) ?_))
  refine s_seal S (by omega) (by omega) hl hn4 hS3 (by omega) (by omega) (fun h6 y6 R6 g6 hy6 => ?_)
  have X6 : CX E A h6 y6 s3 n3 cp3 kd fs fr cf gf := X.ys R6 g6 ⟨by unfold sealP; omega, by unfold sealP; omega, by unfold sealP; omega⟩ (fun j => hy6 0 j (by omega) (by omega) (by omega))
  have yy : ∀ j, y6 0 j = y 0 j := fun j => hy6 0 j (by omega) (by omega) (by omega)
  have y63 : y6 3 c = y 3 c := hy6 3 c (by omega) (by omega) (by omega)
  have q8 := X6.2.2.2
  rw [yy 8] at q8
  refine nN_of (sL_of q8 (j := 8) rfl (by omega) (by omega) ?_)
  obtain ⟨X7, g7⟩ := X6.gs 8 r3.toInt64
  rw [yy 8] at X7 g7
  have x7 := X7.card (c := c) (by omega)
  rw [y63] at x7
  refine isO_of x7 (cK_of (Fc n3 - Fc n4) (Fs n3 cp3 - Fs n4 cp3) (by omega) (by omega) ?_)
  have X8 := X7.eqv (s' := sM) hv
  have := s_reply (c := c) (k := k) (kc := Fc n3 - Fc n4) (ks := Fs n3 cp3 - Fs n4 cp3) (Q := fun h90 => Q 1 h90) X8 w3 (by omega) hk he hS4 (by omega) (by omega) (fun h9 y9 R9 hy9 g9 => hQ h9 y9 R9 ((hy9 0 0 (by omega) (by omega)).trans (yy 0)) ((YS.a X.1.1 g6).tr (g7.tr g9)))
  rw [y63, yy 5] at this
  exact this
end TAIL
