/-! a card takes END -/
def JH {α : Type} (ca sa : Nat) (E : Ev) (A : Nat → Prop) (s : MS) (n cp : Nat → Nat) (kd fs fr : Int32) (cf : Nat → Int64) (i u : Nat) (X : Hp → (Nat → Nat → Nat) → Nat → Nat → (α → Hp → Prop) → Prop) (r : α) (s' : MS) : Prop :=
  ∃ n' cp', W2 i u s' n' ∧ Fc n' ≤ Fc n ∧ Fs n' cp' ≤ Fs n cp ∧ ∀ h y gf, CX E A h y s n cp kd fs fr cf gf → ∀ kc ks, ca + Fc n ≤ kc + Fc n' → sa + Fs n cp ≤ ks + Fs n' cp' → ∀ Q : α → Hp → Prop, (∀ h' y', RXo E A h' y' s' n' cp' → y' 0 0 = y 0 0 → xg A h h' → Q r h') → X h y kc ks Q
section END
variable {E : Ev} {A : Nat → Prop} {s s' : MS} {n cp : Nat → Nat} {kd fs fr : Int32} {cf : Nat → Int64} {i u c : Nat} {r : Int32}
theorem tg10 : ∀ t, t ≤ 11 → hasK 10 t = true → t = 7 ∨ t = 8 := by decide +kernel
theorem J_end43 {w0 : Int32} (Rn : RXn s n cp) (w : W2 i u s n) (hu : u < 2000) (hc : c < n 0) (h30 : s.2.2.1 30 c = 2) (m13 : s.1 13 = fs) (m14 : s.1 14 = fr) (hAd : Ad n fs fr) :
    Mv (M_finish_L99 s (nI c) w0) (fun s' => JH 0 0 E A s n cp kd fs fr cf i (u + 1) (fun h y kc ks Q => m_X1_takesEnd_L43 E (y 3 c) (some (y 0 5)) w0 h kc ks Q) 1 s') := by
  have hn0 := Rn.1.2
  have hn4 : n 4 ≤ u := by have := w.1.2.2.2.2.1.2; omega
  have hn2 := Rn.2.2.1
  have cc : (nI c).toNatClampNeg = c := nI_clamp (by omega)
  have cb : (nI c < 0 ∨ 16 ≤ c) = False := ixF (by omega) (by omega)
  unfold M_finish_L99
  dsimp only [lt1]
  simp only [cc, cb, if_false, tC7, tC8, tB7, tB8]
  refine Mv.begb (Mv.moreb (by simp) (Mv.moreb (by simp) (Mv.moreb (by simp) (Mv.moreb (by simp) (Mv.moreb (by simp) (Mv.b ?_))))))
  have hl0 : rowl (mL (rowS s [10, w0.toInt64, s.2.2.2 32 c, s.2.2.2 33 c, s.2.2.2 34 c, (s.2.2.1 27 c).toInt64]) 18 7 w0.toInt64) [10, w0.toInt64, s.2.2.2 32 c, s.2.2.2 33 c, s.2.2.2 34 c, (s.2.2.1 27 c).toInt64] := rowS_l s _
  generalize hl : [10, w0.toInt64, s.2.2.2 32 c, s.2.2.2 33 c, s.2.2.2 34 c, (s.2.2.1 27 c).toInt64] = l at hl0
  have hll : l.length = 6 := by rw [← hl]; rfl
  have hsA : (mL (rowS s ([10] ++ [w0.toInt64] ++ [s.2.2.2 32 c] ++ [s.2.2.2 33 c] ++ [s.2.2.2 34 c] ++ [(s.2.2.1 27 c).toInt64])) 18 7 w0.toInt64) = mL (rowS s l) 18 7 w0.toInt64 := by rw [← hl]; rfl
  obtain ⟨r3, s3, n3, cp3, e3', hS3⟩ := M_seal_row (n := n) (cp := cp) (s := mL (rowS s l) 18 7 w0.toInt64) (l := l) hl0 (by omega) w.1.2.2.2.2.1.1 (by omega) 0 (nI c).toInt64
  refine Mw.e (r := r3) (s := s3) (by rw [← e3', ← hsA]; rfl) ?_
  have w3 := hS3.w (by omega) (by omega) (w.eqv rfl)
  obtain ⟨F1, F2, F3, F4⟩ := hS3.F (by omega) Rn.2.2.2.2.2.2.2.2.2.2
  obtain ⟨S1, S2, S3, S4⟩ := hS3.sc
  have hn32 : n3 2 = n 2 := F4 2 (by omega)
  have hn39 : n3 9 = n 9 := F4 9 (by omega)
  have hn30 : n3 0 = n 0 := F4 0 (by omega)
  have hn31 : n3 1 = n 1 := F4 1 (by omega)
  dsimp only
  have w3' : W2 i (u + 1) (mA (mL s3 18 8 r3.toInt64) 30 c 0) n3 := (w3.eqv (s1 := mL s3 18 8 r3.toInt64) rfl).cd (c := c) (by omega) rfl rfl (fun j hj => by simp [cdv, mA, va_up, upd, hj]) (by simpa [mA, va_up, upd] using (w3.eqv (s1 := mL s3 18 8 r3.toInt64) rfl).2.2.2.2.2.2.1 c (by omega))
  refine Mv.bv (M_reply_spec (s := mA (mL s3 18 8 r3.toInt64) 30 c 0) (n := n3) (k := 10) (by omega) w3.1.2.2.1.1 (by omega) (fun r4 s4 n4 hS4 => Mv.r ?_))
  have f13 : s3.1 13 = fs := (S2 13 (by omega)).trans m13
  have f14 : s3.1 14 = fr := (S2 14 (by omega)).trans m14
  have hS4 : SendR (mA (mL s3 18 8 r3.toInt64) 30 c 0) 10 0 (nI c) fs fr ((mA (mL s3 18 8 r3.toInt64) 30 c 0).2.2.2 18) n3 r4 s4 n4 := by
    rw [← f13, ← f14]; exact hS4
  obtain ⟨G1, G2, G3, G4⟩ := hS4.F (cp := cp3) (by omega)
  refine ⟨n4, cp3, hS4.w (by omega) w3' (Or.inl ⟨rfl, c, by omega, rfl⟩) (hAd.m (by omega) (by omega)), by omega, by omega, fun h y gf X kc ks k1 k2 Q hQ => ?_⟩
  have x := X.card hc
  obtain ⟨p1, p2, p3, p4, p5, p6, p7, p8, ap, aq⟩ := X.asked hc
  obtain ⟨e1, e2, e3, e4, e5⟩ := aq h30
  subst e1
  have npc : y 4 c ≠ y 3 c := nP_obj x (by decide) _ _ ap
  refine pV_of x (by show 8 < 12; decide) ?_
  obtain ⟨X1, g1⟩ := X.cd (s' := mA s 30 c 0) (p := y 4 c) (x22 := s.2.2.1 22 c) (x23 := s.2.2.2 23 c) (x24 := s.2.2.1 24 c) (x27 := s.2.2.1 27 c) (x28 := s.2.2.1 28 c) (x29 := s.2.2.1 29 c) (x30 := 0) (x35 := s.2.2.1 35 c) (x31 := s.2.2.1 31 c) (x32 := s.2.2.2 32 c) (x33 := s.2.2.2 33 c) (x34 := s.2.2.2 34 c) (x25 := s.2.2.2 25 c) (x26 := s.2.2.1 26 c) hc (xg.set rfl) (Or.inl rfl) (by simp [cdv, mA, va_up, upd]) x.set ⟨_, _, _, _, _, _, _, _, ap.ne npc, fun z => absurd z (by decide)⟩ rfl rfl (fun j hj => by simp [cdv, mA, va_up, upd, hj]) rfl rfl
  have x1 := X1.card hc
  have ap1 := ap.ne (e' := .inr (2, cardL y c (y 4 c) (s.2.2.1 22 c) (s.2.2.2 23 c) (s.2.2.1 24 c) (s.2.2.1 27 c) (s.2.2.1 28 c) (s.2.2.1 29 c) 0 (s.2.2.1 35 c) (s.2.2.1 31 c))) npc
  obtain ⟨b1, b2, b3, go1⟩ := X1.goes
  refine gR_of x1 rfl (nN_of (gR_of X1.world rfl (nN_of (gR_of go1 rfl (nN_of (sL_of X1.2.2.2 (j := 7) rfl (by omega) (by omega) ?_))))))
  obtain ⟨X2, g2⟩ := X1.gs 7 w0.toInt64
  have x2 := X2.card hc
  obtain ⟨b1, b2, b3, go2⟩ := X2.goes
  obtain ⟨-, -, -, -, -, ⟨z0, z1, z2, f5⟩, -⟩ := id X2.1.2.2.1
  have ap2 : PAY _ (y 4 c) (nI c) p2 p3 p4 p5 p6 p7 p8 := ap1.ne (a := y 0 8) (e' := .inl (E.1 1, 12, .inr (.inl (vp_updL gf 7 w0.toInt64)))) (nP_arr X1.2.2.2 _ _ ap1)
  have y4 : up2 y 4 c (y 4 c) 4 c = y 4 c := by show va_up (y 4) c (y 4 c) c = _; exact va_up_self _ _ _
  refine gR_of x2 rfl (nN_of (gR_of X2.world rfl (nN_of (gR_of go2 rfl (gR_of x2 rfl (nN_of (gR_of X2.world rfl (gR_of x2 rfl (nN_of (isO_of f5 ?_))))))))))
  rw [y4]
  refine s_ofLast X2.1 ap2 (fun h5 S5 => ?_)
  have X5 : CX E A h5 _ (mA s 30 c 0) n cp kd fs fr cf _ := X2.ys S5.1 S5.2.1 ⟨by unfold rowP; omega, by unfold rowP; omega, by unfold rowP; omega⟩ (fun _ => rfl)
  have S6 := S5.re (s' := mA (mL (rowS s l) 18 7 w0.toInt64) 30 c 0) (l' := l) rfl (by rw [← hl, e2, e3, e4, e5])
  have X6 := X5.eqv (s' := mA (mL (rowS s l) 18 7 w0.toInt64) 30 c 0) rfl
  rw [show (256 : Int32) * 0 + (nI c).toInt64.toInt32 = nI (256 * 0 + c) from keyc 0 c] at hS3
  have hS3' := hS3.mA 30 c 0 (by omega) (by omega)
  have := s_tail (k := 10) (sM := mA (mL s3 18 8 r3.toInt64) 30 c 0) (kc := kc) (ks := ks) (Q := Q) X6 S6 (by omega) hc (by omega) hS3' rfl w3' (by omega) hS4 (fun t t1 t2 ht => ?_) (by omega) (by omega) (fun h9 y9 R9 hy9 g9 => hQ h9 y9 R9 hy9 (g1.tr (g2.tr ((YS.a X2.1.1 S5.2.1).tr g9))))
  · exact this
  · show _ = vp_updL (s3.2.2.2 18) 8 r3.toInt64 t
    rw [S1 18 (by omega)]
    rcases tg10 t t2 ht with rfl | rfl
    · show w0.toInt64 = w0.toInt64; rfl
    · show r3.toInt64 = r3.toInt64; rfl
end END
