/-! a card takes ASK -/
theorem mL_A (s : MS) (k j : Nat) (v : Int64) : (mL s k j v).2.2.1 = s.2.2.1 := rfl
theorem mL_I (s : MS) (k j : Nat) (v : Int64) : (mL s k j v).1 = s.1 := rfl
theorem mI_A (s : MS) (k : Nat) (v : Int32) : (mI s k v).2.2.1 = s.2.2.1 := rfl
theorem mI_L (s : MS) (k : Nat) (v : Int32) : (mI s k v).2.2.2 = s.2.2.2 := rfl
theorem mA_L (s : MS) (k j : Nat) (v : Int32) : (mA s k j v).2.2.2 = s.2.2.2 := rfl
theorem mA_I (s : MS) (k j : Nat) (v : Int32) : (mA s k j v).1 = s.1 := rfl
theorem mL18_17 (s : MS) (j : Nat) (v : Int64) : (mL s 18 j v).2.2.2 17 = s.2.2.2 17 := rfl
theorem mL60_17 (s : MS) (j : Nat) (v : Int64) : (mL s 60 j v).2.2.2 17 = s.2.2.2 17 := rfl
theorem mL32_17 (s : MS) (j : Nat) (v : Int64) : (mL s 32 j v).2.2.2 17 = s.2.2.2 17 := rfl
theorem mL33_17 (s : MS) (j : Nat) (v : Int64) : (mL s 33 j v).2.2.2 17 = s.2.2.2 17 := rfl
theorem mL34_17 (s : MS) (j : Nat) (v : Int64) : (mL s 34 j v).2.2.2 17 = s.2.2.2 17 := rfl
theorem mL_18 (s : MS) (j : Nat) (v : Int64) : (mL s 18 j v).2.2.2 18 = vp_updL (s.2.2.2 18) j v := rfl
theorem rowS_A (s : MS) (l : List Int64) : (rowS s l).2.2.1 = s.2.2.1 := rfl
theorem rowS_17 (s : MS) (l : List Int64) : (rowS s l).2.2.2 17 = s.2.2.2 17 := rfl
theorem rowl_18 {s : MS} {l : List Int64} (h : rowl s l) (j : Nat) (v : Int64) : rowl (mL s 18 j v) l := h
theorem vis_18 (s : MS) (j : Nat) (v : Int64) : vis (mL s 18 j v) = vis s := rfl
theorem vis_row (s : MS) (l : List Int64) : vis (rowS s l) = vis s := rfl
section ASK
variable {E : Ev} {A : Nat → Prop} {s s' : MS} {n cp : Nat → Nat} {kd fs fr : Int32} {cf : Nat → Int64} {i u c : Nat} {r : Int32}
theorem tg6 : ∀ t, t ≤ 11 → hasK 6 t = true → t = 2 ∨ t = 6 ∨ t = 7 ∨ t = 8 := by decide +kernel
theorem W2.ans (w : W2 i u s n) (cc k t ww a : Int32) (am un : Int64) : W2 (i + 1) u (ansS s n cc k am un t ww a) (va_up n 6 (n 6 + 1)) := by
  obtain ⟨⟨c0, c1, c2, c3, c4, c5, c6, c7, c8⟩, w⟩ := w
  exact ⟨⟨c0, c1, c2, ⟨c3.1, by show n 3 ≤ i + 1; omega⟩, c4, ⟨c5.1, by show n 5 ≤ i + 1; omega⟩, ⟨rfl, by show n 6 + 1 ≤ i + 1; omega⟩, ⟨c7.1, by show n 7 ≤ i + 1; omega⟩, c8⟩, w⟩
theorem SealR.ans {key : Int32} {rs : Nat} {g : Nat → Int64} {n' cp' : Nat → Nat} {m : Nat → Nat} (hS : SealR s key rs g n cp r s' n' cp') (cc k t ww a : Int32) (am un : Int64) : SealR (ansS s m cc k am un t ww a) key rs g n cp r (ansS s' m cc k am un t ww a) n' cp' :=
  (((((((hS.mL 60 _ _ (by omega)).mL 60 _ _ (by omega)).mL 60 _ _ (by omega)).mL 60 _ _ (by omega)).mL 60 _ _ (by omega)).mL 60 _ _ (by omega)).mL 60 _ _ (by omega)).mI 59 _ (by omega)
theorem vis_m30 {s1 : MS} (e : vis s1 = vis s) (v : Int32) : vis (mA s1 30 c v) = vis (mA s 30 c v) := by
  have h1 : ∀ z : MS, vis (mA z 30 c v) = vis (mA (unvis (vis z)) 30 c v) := fun _ => rfl
  rw [h1 s1, h1 s, e]
theorem vis_ans {s1 : MS} {m : Nat → Nat} (e : vis s1 = vis s) (cc k t ww a : Int32) (am un : Int64) : vis (ansS s1 m cc k am un t ww a) = vis (ansS s m cc k am un t ww a) := by
  have h1 : ∀ z : MS, vis (ansS z m cc k am un t ww a) = vis (ansS (unvis (vis z)) m cc k am un t ww a) := fun _ => rfl
  rw [h1 s1, h1 s, e]
theorem ansS_18 {m : Nat → Nat} (cc k t ww a : Int32) (am un : Int64) : (ansS s m cc k am un t ww a).2.2.2 18 = s.2.2.2 18 := rfl
theorem ansS_A {m : Nat → Nat} (cc k t ww a : Int32) (am un : Int64) : (ansS s m cc k am un t ww a).2.2.1 = s.2.2.1 := rfl
theorem ansS_13 {m : Nat → Nat} (cc k t ww a : Int32) (am un : Int64) : (ansS s m cc k am un t ww a).1 13 = s.1 13 ∧ (ansS s m cc k am un t ww a).1 14 = s.1 14 := ⟨rfl, rfl⟩
theorem ansS_32 {m : Nat → Nat} (cc k t ww a : Int32) (am un : Int64) : (ansS s m cc k am un t ww a).2.2.2 32 = s.2.2.2 32 ∧ (ansS s m cc k am un t ww a).2.2.2 33 = s.2.2.2 33 ∧ (ansS s m cc k am un t ww a).2.2.2 34 = s.2.2.2 34 := ⟨rfl, rfl, rfl⟩
theorem W2.s30 (w : W2 i u s n) (hc : c < n 0) (v : Int32) : W2 i u (mA s 30 c v) n := w.cd (c := c) hc rfl rfl (fun j hj => by simp [cdv, mA, va_up, upd, hj]) (by simpa [mA, va_up, upd] using w.2.2.2.2.2.2.1 c hc)
theorem up2_id {y : Nat → Nat → Nat} {k j : Nat} : up2 y k j (y k j) = y := by
  funext k' j'
  by_cases z : k' = k
  · subst z
    show va_up y k' (va_up (y k') j (y k' j)) k' j' = _
    rw [va_up_self]
    by_cases w : j' = j
    · subst w; exact va_up_self _ _ _
    · exact va_up_ne _ _ w
  · show va_up y k _ k' j' = _
    rw [va_up_ne _ _ z]
theorem CX.s30 {h : Hp} {y : Nat → Nat → Nat} {gf : Nat → Int64} (X : CX E A h y s n cp kd fs fr cf gf) (hc : c < n 0) (v : Int32) (hP : v = 2 → ∃ t w a sl, PAY h (y 4 c) (nI c) (s.2.2.1 27 c) (s.2.2.2 32 c) (s.2.2.2 33 c) t w a sl ∧ t.toInt64 = s.2.2.2 34 c) : CX E A (xh_set h (y 3 c) (.inr (2, cardL y c (y 4 c) (s.2.2.1 22 c) (s.2.2.2 23 c) (s.2.2.1 24 c) (s.2.2.1 27 c) (s.2.2.1 28 c) (s.2.2.1 29 c) v (s.2.2.1 35 c) (s.2.2.1 31 c)))) y (mA s 30 c v) n cp kd fs fr cf gf ∧ xg A h (xh_set h (y 3 c) (.inr (2, cardL y c (y 4 c) (s.2.2.1 22 c) (s.2.2.2 23 c) (s.2.2.1 24 c) (s.2.2.1 27 c) (s.2.2.1 28 c) (s.2.2.1 29 c) v (s.2.2.1 35 c) (s.2.2.1 31 c)))) := by
  have x := X.card hc
  have hq : ∃ cc k am un t w a sl, PAY (xh_set h (y 3 c) (.inr (2, cardL y c (y 4 c) (s.2.2.1 22 c) (s.2.2.2 23 c) (s.2.2.1 24 c) (s.2.2.1 27 c) (s.2.2.1 28 c) (s.2.2.1 29 c) v (s.2.2.1 35 c) (s.2.2.1 31 c)))) (y 4 c) cc k am un t w a sl ∧ (v = 2 → cc = nI c ∧ k = s.2.2.1 27 c ∧ am = s.2.2.2 32 c ∧ un = s.2.2.2 33 c ∧ t.toInt64 = s.2.2.2 34 c) := by
    by_cases z : v = 2
    · obtain ⟨t, w, a, sl, ap, e⟩ := hP z
      exact ⟨_, _, _, _, t, w, a, sl, ap.ne (nP_obj x (by decide) _ _ ap), fun _ => ⟨rfl, rfl, rfl, rfl, e⟩⟩
    · obtain ⟨a1, a2, a3, a4, a5, a6, a7, a8, ap, aq⟩ := X.asked hc
      exact ⟨_, _, _, _, _, _, _, _, ap.ne (nP_obj x (by decide) _ _ ap), fun q => absurd q z⟩
  have := X.cd (s' := mA s 30 c v) (p := y 4 c) (x22 := s.2.2.1 22 c) (x23 := s.2.2.2 23 c) (x24 := s.2.2.1 24 c) (x27 := s.2.2.1 27 c) (x28 := s.2.2.1 28 c) (x29 := s.2.2.1 29 c) (x30 := v) (x35 := s.2.2.1 35 c) (x31 := s.2.2.1 31 c) (x32 := s.2.2.2 32 c) (x33 := s.2.2.2 33 c) (x34 := s.2.2.2 34 c) (x25 := s.2.2.2 25 c) (x26 := s.2.2.1 26 c) hc (xg.set rfl) (Or.inl rfl) (by simp [cdv, mA, va_up, upd]) x.set hq rfl rfl (fun j hj => by simp [cdv, mA, va_up, upd, hj]) rfl rfl
  rw [up2_id] at this
  exact this
theorem s_ask68 {h1 : Hp} {y1 : Nat → Nat → Nat} {gf v : Nat → Int64} {sB sC s3 sM s4 : MS} {nB cpB n3 cp3 n4 : Nat → Nat} {st ans t5 r3 r4 : Int32} {am un : Int64} {p kc ks : Nat} {l : List Int64} {Q : Int32 → Hp → Prop} (X1 : CX E A h1 y1 sB nB cpB kd fs fr cf gf) (hc : c < nB 0) (ap : PAY h1 p (nI c) (sB.2.2.1 27 c) am un t5 (sB.2.2.1 31 c) ans 0) (hy4 : y1 4 c = p) (h32 : sB.2.2.2 32 c = am) (h33 : sB.2.2.2 33 c = un) (h34 : sB.2.2.2 34 c = t5.toInt64) (hvB : vis sC = vis sB) (hn4 : nB 4 < 2048)
    (hl : l = [6, ans.toInt64, am, un, t5.toInt64, (sB.2.2.1 27 c).toInt64, (sB.2.2.1 31 c).toInt64]) (hS3 : SealR (mA sC 30 c st) (nI (256 * 0 + c)) l.length (fun i => l.getD i 0) nB cpB r3 s3 n3 cp3) (hv : vis sM = vis s3) (w3 : W2 i u sM n3) (hS4 : SendR sM 6 0 (nI c) fs fr v n3 r4 s4 n4) (v2 : v 2 = (sB.2.2.1 27 c).toInt64) (v6 : v 6 = (sB.2.2.1 31 c).toInt64) (v7 : v 7 = ans.toInt64) (v8 : v 8 = r3.toInt64) (k1 : Fc nB ≤ kc + Fc n4) (k2 : Fs nB cpB ≤ ks + Fs n4 cp3)
    (hQ : ∀ h' y', RXo E A h' y' s4 n4 cp3 → y' 0 0 = y1 0 0 → xg A h1 h' → Q 1 h') : m_X1_takesAsk_L68 E (y1 3 c) (some (y1 0 5)) ans st (some (y1 3 c)) h1 kc ks Q := by
  have x1 := X1.card hc
  subst hy4
  have npc : y1 4 c ≠ y1 3 c := nP_obj x1 (by decide) _ _ ap
  refine nN_of (pV_of x1 (by show 8 < 12; decide) ?_)
  obtain ⟨X2, g2⟩ := X1.s30 hc st (fun _ => ⟨_, _, _, _, by rw [h32, h33]; exact ap, h34.symm⟩)
  have ap2 := ap.ne (e' := .inr (2, cardL y1 c (y1 4 c) (sB.2.2.1 22 c) (sB.2.2.2 23 c) (sB.2.2.1 24 c) (sB.2.2.1 27 c) (sB.2.2.1 28 c) (sB.2.2.1 29 c) st (sB.2.2.1 35 c) (sB.2.2.1 31 c))) npc
  have x2 := X2.card hc
  obtain ⟨b1, b2, b3, go2⟩ := X2.goes
  refine gR_of x2 rfl (nN_of (gR_of X2.world rfl (nN_of (gR_of go2 rfl (gI_of x2 rfl (nN_of (sL_of X2.2.2.2 (j := 2) rfl (by omega) (by omega) ?_)))))))
  have q27 : (mA sB 30 c st).2.2.1 27 c = sB.2.2.1 27 c := by simp [mA, va_up]
  have q31 : (mA sB 30 c st).2.2.1 31 c = sB.2.2.1 31 c := by simp [mA, va_up]
  rw [q27]
  obtain ⟨X3, g3⟩ := X2.gs 2 (sB.2.2.1 27 c).toInt64
  have ap3 := ap2.ne (a := y1 0 8) (e' := .inl (E.1 1, 12, .inr (.inl (vp_updL gf 2 (sB.2.2.1 27 c).toInt64)))) (nP_arr X2.2.2.2 _ _ ap2)
  have x3 := X3.card hc
  obtain ⟨b1, b2, b3, go3⟩ := X3.goes
  refine gR_of x3 rfl (nN_of (gR_of X3.world rfl (nN_of (gR_of go3 rfl (gI_of x3 rfl (nN_of (sL_of X3.2.2.2 (j := 6) rfl (by omega) (by omega) ?_)))))))
  rw [q31]
  obtain ⟨X4, g4⟩ := X3.gs 6 (sB.2.2.1 31 c).toInt64
  have ap4 := ap3.ne (a := y1 0 8) (e' := .inl (E.1 1, 12, .inr (.inl (vp_updL (vp_updL gf 2 (sB.2.2.1 27 c).toInt64) 6 (sB.2.2.1 31 c).toInt64)))) (nP_arr X3.2.2.2 _ _ ap3)
  have x4 := X4.card hc
  obtain ⟨b1, b2, b3, go4⟩ := X4.goes
  refine gR_of x4 rfl (nN_of (gR_of X4.world rfl (nN_of (gR_of go4 rfl (nN_of (sL_of X4.2.2.2 (j := 7) rfl (by omega) (by omega) ?_))))))
  obtain ⟨X5, g5⟩ := X4.gs 7 ans.toInt64
  have ap5 := ap4.ne (a := y1 0 8) (e' := .inl (E.1 1, 12, .inr (.inl (vp_updL (vp_updL (vp_updL gf 2 (sB.2.2.1 27 c).toInt64) 6 (sB.2.2.1 31 c).toInt64) 7 ans.toInt64)))) (nP_arr X4.2.2.2 _ _ ap4)
  have x5 := X5.card hc
  obtain ⟨b1, b2, b3, go5⟩ := X5.goes
  obtain ⟨-, -, -, -, -, ⟨z0, z1, z2, f5⟩, -⟩ := id X5.1.2.2.1
  refine gR_of x5 rfl (nN_of (gR_of X5.world rfl (nN_of (gR_of go5 rfl (gR_of x5 rfl (nN_of (gR_of X5.world rfl (gR_of x5 rfl (nN_of (isO_of f5 ?_))))))))))
  refine s_ofAnswer X5.1 ap5 (fun h6 S6 => ?_)
  have X6 : CX E A h6 y1 (mA sB 30 c st) nB cpB kd fs fr cf _ := X5.ys S6.1 S6.2.1 ⟨by unfold rowP; omega, by unfold rowP; omega, by unfold rowP; omega⟩ (fun _ => rfl)
  have S7 := S6.re (s' := mA sC 30 c st) (l' := l) (vis_m30 hvB st) hl
  have X7 := X6.eqv (s' := mA sC 30 c st) (vis_m30 hvB st)
  have hll : l.length = 7 := by rw [hl]; rfl
  have := s_tail (k := 6) (sM := sM) (kc := kc) (ks := ks) (Q := Q) X7 S7 (by omega) hc hn4 hS3 hv w3 (by omega) hS4 (fun t t1 t2 ht => ?_) k1 k2 (fun h9 y9 R9 hy9 g9 => hQ h9 y9 R9 hy9 (g2.tr (g3.tr (g4.tr (g5.tr ((YS.a X5.1.1 S6.2.1).tr g9))))))
  · exact this
  · rcases tg6 t t2 ht with rfl | rfl | rfl | rfl
    · rw [v2]; rfl
    · rw [v6]; rfl
    · rw [v7]; rfl
    · rw [v8]; rfl
theorem J_ask51 {ans t5 : Int32} (Rn : RXn s n cp) (h10 : cp 15 = 0 ∨ 10 ≤ cp 15) (w : W2 i u s n) (hi : i < 512) (hu : u < 2000) (hc : c < n 0) (h30 : ¬ s.2.2.1 30 c = 2) (m13 : s.1 13 = fs) (m14 : s.1 14 = fr) (hAd : Ad n fs fr) (f4 : s.2.2.2 17 4 = cf 4) (f5 : s.2.2.2 17 5 = t5.toInt64) (ht : (cf 5).toInt32 = t5) :
    Mv (M_answer_L97 s (nI c) (cf 3) ans) (fun s' => JH 2 8 E A s n cp kd fs fr cf (i + 1) (u + 1) (fun h y kc ks Q => m_X1_takesAsk_L51 E (y 3 c) (some (y 0 5)) ans h kc ks Q) 1 s') := by
  have hn0 := Rn.1.2
  have hn4 : n 4 ≤ u := by have := w.1.2.2.2.2.1.2; omega
  have hn6 : n 6 ≤ i := w.1.2.2.2.2.2.2.1.2
  have hn2 := Rn.2.2.1
  have hcp := Rn.2.2.2.2.2.2.2.2.2.2
  have cc : (nI c).toNatClampNeg = c := nI_clamp (by omega)
  have cb : (nI c < 0 ∨ 16 ≤ c) = False := ixF (by omega) (by omega)
  unfold M_answer_L97
  dsimp only [lt1]
  simp only [cc, cb, if_false, tC2, tC4, tC5, tC6, tC7, tC8, tB2, tB4, tB5, tB6, tB7, tB8, mL32_17, mL33_17, f4, f5]
  have wS : W2 i u (mL (mL (mL s 32 c (cf 3)) 33 c (cf 4)) 34 c t5.toInt64) n := w.cd (c := c) hc rfl rfl (fun j hj => by simp [cdv, mL, va_up, vp_updL, hj]) (w.2.2.2.2.2.2.1 c hc)
  have a17 : (mL (mL (mL s 32 c (cf 3)) 33 c (cf 4)) 34 c t5.toInt64).2.2.2 17 = s.2.2.2 17 := rfl
  have aA : (mL (mL (mL s 32 c (cf 3)) 33 c (cf 4)) 34 c t5.toInt64).2.2.1 = s.2.2.1 := rfl
  have aI : (mL (mL (mL s 32 c (cf 3)) 33 c (cf 4)) 34 c t5.toInt64).1 = s.1 := rfl
  have aV : ∀ st : Int32, ∀ sz : MS, sz = (mL (mL (mL s 32 c (cf 3)) 33 c (cf 4)) 34 c t5.toInt64) → vis (mA (ansS (mL (mL (mL s 32 c (cf 3)) 33 c (cf 4)) 34 c t5.toInt64) n (nI c) (s.2.2.1 27 c) (cf 3) (cf 4) t5 (s.2.2.1 31 c) ans) 30 c st) = vis (mA (ansS sz n (nI c) (s.2.2.1 27 c) (cf 3) (cf 4) t5 (s.2.2.1 31 c) ans) 30 c st) := fun st sz e => by rw [e]
  generalize hsA : (mL (mL (mL s 32 c (cf 3)) 33 c (cf 4)) 34 c t5.toInt64) = sA at wS a17 aA aI ⊢
  refine Mv.begb (Mv.moreb (by simp) (Mv.moreb (by simp) (Mv.moreb (by simp) (Mv.moreb (by simp) (Mv.moreb (by simp) (Mv.moreb (by simp) (Mv.b ?_)))))))
  simp only [rowS_A, rowS_17, mL_A, a17, aA, f4, f5, List.cons_append, List.nil_append]
  generalize hl : [6, ans.toInt64, cf 3, cf 4, t5.toInt64, (s.2.2.1 27 c).toInt64, (s.2.2.1 31 c).toInt64] = l
  have hll : l.length = 7 := by rw [← hl]; rfl
  obtain ⟨r3, s3, n3, cp3, e3', hS3⟩ := M_seal_row (n := n) (cp := cp) (s := (mL (mL (mL (rowS sA l) 18 2 (s.2.2.1 27 c).toInt64) 18 6 (s.2.2.1 31 c).toInt64) 18 7 ans.toInt64)) (l := l) (rowl_18 (rowl_18 (rowl_18 (rowS_l sA l) _ _) _ _) _ _) (by omega) wS.1.2.2.2.2.1.1 (by omega) 0 (nI c).toInt64
  refine Mw.e e3' ?_
  have wA : W2 i u (mL (mL (mL (rowS sA l) 18 2 (s.2.2.1 27 c).toInt64) 18 6 (s.2.2.1 31 c).toInt64) 18 7 ans.toInt64) n := wS.eqv (by rw [vis_18, vis_18, vis_18, vis_row])
  have w3 := hS3.w (by omega) (by omega) wA
  obtain ⟨S1, S2, S3, S4⟩ := hS3.sc
  have q27 : s3.2.2.1 27 = s.2.2.1 27 := (S3 27 (by omega) (by omega)).trans (by rw [mL_A, mL_A, mL_A, rowS_A, aA])
  have q31 : s3.2.2.1 31 = s.2.2.1 31 := (S3 31 (by omega) (by omega)).trans (by rw [mL_A, mL_A, mL_A, rowS_A, aA])
  have q17 : s3.2.2.2 17 = s.2.2.2 17 := (S1 17 (by omega)).trans (by rw [mL18_17, mL18_17, mL18_17, rowS_17, a17])
  have q18 : s3.2.2.2 18 = (mL (mL (mL (rowS sA l) 18 2 (s.2.2.1 27 c).toInt64) 18 6 (s.2.2.1 31 c).toInt64) 18 7 ans.toInt64).2.2.2 18 := S1 18 (by omega)
  have q59 : s3.1 59 = nI (n 6) := (S2 59 (by omega)).trans (show sA.1 59 = _ by rw [aI]; exact Rn.2.2.2.2.2.2.1)
  have q13 : s3.1 13 = fs := (S2 13 (by omega)).trans (show sA.1 13 = _ by rw [aI]; exact m13)
  have q14 : s3.1 14 = fr := (S2 14 (by omega)).trans (show sA.1 14 = _ by rw [aI]; exact m14)
  have i0 : (7 : Int32) * nI (n 6) = nI (7 * n 6) := pk_mul 7 _
  have i1 : nI (7 * n 6) + 1 = nI (7 * n 6 + 1) := nI_1 _
  have i2 : nI (7 * n 6) + 2 = nI (7 * n 6 + 2) := nI_add _ 2
  have i3 : nI (7 * n 6) + 3 = nI (7 * n 6 + 3) := nI_add _ 3
  have i4 : nI (7 * n 6) + 4 = nI (7 * n 6 + 4) := nI_add _ 4
  have i5 : nI (7 * n 6) + 5 = nI (7 * n 6 + 5) := nI_add _ 5
  have i6 : nI (7 * n 6) + 6 = nI (7 * n 6 + 6) := nI_add _ 6
  have j0 : (nI (7 * n 6)).toNatClampNeg = 7 * n 6 := nI_clamp (by omega)
  have j1 : (nI (7 * n 6 + 1)).toNatClampNeg = 7 * n 6 + 1 := nI_clamp (by omega)
  have j2 : (nI (7 * n 6 + 2)).toNatClampNeg = 7 * n 6 + 2 := nI_clamp (by omega)
  have j3 : (nI (7 * n 6 + 3)).toNatClampNeg = 7 * n 6 + 3 := nI_clamp (by omega)
  have j4 : (nI (7 * n 6 + 4)).toNatClampNeg = 7 * n 6 + 4 := nI_clamp (by omega)
  have j5 : (nI (7 * n 6 + 5)).toNatClampNeg = 7 * n 6 + 5 := nI_clamp (by omega)
  have j6 : (nI (7 * n 6 + 6)).toNatClampNeg = 7 * n 6 + 6 := nI_clamp (by omega)
  have b0 : (nI (7 * n 6) < 0 ∨ 4200 ≤ 7 * n 6) = False := ixF (by omega) (by omega)
  have b1 : (nI (7 * n 6 + 1) < 0 ∨ 4200 ≤ 7 * n 6 + 1) = False := ixF (by omega) (by omega)
  have b2 : (nI (7 * n 6 + 2) < 0 ∨ 4200 ≤ 7 * n 6 + 2) = False := ixF (by omega) (by omega)
  have b3 : (nI (7 * n 6 + 3) < 0 ∨ 4200 ≤ 7 * n 6 + 3) = False := ixF (by omega) (by omega)
  have b4 : (nI (7 * n 6 + 4) < 0 ∨ 4200 ≤ 7 * n 6 + 4) = False := ixF (by omega) (by omega)
  have b5 : (nI (7 * n 6 + 5) < 0 ∨ 4200 ≤ 7 * n 6 + 5) = False := ixF (by omega) (by omega)
  have b6 : (nI (7 * n 6 + 6) < 0 ∨ 4200 ≤ 7 * n 6 + 6) = False := ixF (by omega) (by omega)
  simp only [mL_A, mL_I, mL60_17, mL18_17, q27, q31, q17, q59, f4, f5, i0, i1, i2, i3, i4, i5, i6, j0, j1, j2, j3, j4, j5, j6, b0, b1, b2, b3, b4, b5, b6, if_false, nI_1]
  have fin : ∀ st : Int32, (ans = 1 → st = 2) → (¬ ans = 1 → st = 0) → Mv (M_answer_L373 (ansS (mL s3 18 8 r3.toInt64) n (nI c) (s.2.2.1 27 c) (cf 3) (cf 4) t5 (s.2.2.1 31 c) ans) (nI c) st (nI c)) (fun s' => JH 2 8 E A s n cp kd fs fr cf (i + 1) (u + 1) (fun h y kc ks Q => m_X1_takesAsk_L51 E (y 3 c) (some (y 0 5)) ans h kc ks Q) 1 s') := by
    intro st hst1 hst0
    unfold M_answer_L373
    dsimp only [lt1]
    simp only [cc, cb, if_false]
    have hN := hS3.nn 6 15 (n 6 + 1) (alC (n 6) (cp 15)) (by omega) (by omega)
    have hgF := grow_F (n := n) (j0 := 15) (m := n 6) (by omega) (by omega) hcp (by omega) h10
    obtain ⟨F1, F2, F3, F4⟩ := hN.F (show n 4 < 2048 by omega) hgF.2
    have F1' : Fc (va_up n3 6 (n 6 + 1)) ≤ Fc n := F1
    have F2' : Fs (va_up n3 6 (n 6 + 1)) (va_up cp3 15 (alC (n 6) (cp 15))) ≤ Fs n (va_up cp 15 (alC (n 6) (cp 15))) := F2
    have gg := hgF.1
    have hn32 : (va_up n3 6 (n 6 + 1)) 2 = n 2 := F4 2 (by omega)
    have hn39 : (va_up n3 6 (n 6 + 1)) 9 = n 9 := F4 9 (by omega)
    have hn30 : (va_up n3 6 (n 6 + 1)) 0 = n 0 := F4 0 (by omega)
    have hn31 : (va_up n3 6 (n 6 + 1)) 1 = n 1 := F4 1 (by omega)
    have hn36 : n3 6 = n 6 := by
      rcases hS3 with ⟨_, _, _, _, _, _, rfl, _⟩ | ⟨_, _, _, rfl, _⟩ <;> rfl
    have wB : W2 (i + 1) (u + 1) (ansS (mL s3 18 8 r3.toInt64) n (nI c) (s.2.2.1 27 c) (cf 3) (cf 4) t5 (s.2.2.1 31 c) ans) (va_up n3 6 (n 6 + 1)) := by
      have := (w3.eqv (s1 := mL s3 18 8 r3.toInt64) rfl).ans (nI c) (s.2.2.1 27 c) t5 (s.2.2.1 31 c) ans (cf 3) (cf 4)
      unfold ansS at this ⊢
      rw [hn36] at this
      exact this
    have hc3 : c < (va_up n3 6 (n 6 + 1)) 0 := by rw [hn30]; exact hc
    have wC : W2 (i + 1) (u + 1) (mA (ansS (mL s3 18 8 r3.toInt64) n (nI c) (s.2.2.1 27 c) (cf 3) (cf 4) t5 (s.2.2.1 31 c) ans) 30 c st) (va_up n3 6 (n 6 + 1)) := wB.s30 hc3 st
    refine Mv.bv (M_reply_spec (s := (mA (ansS (mL s3 18 8 r3.toInt64) n (nI c) (s.2.2.1 27 c) (cf 3) (cf 4) t5 (s.2.2.1 31 c) ans) 30 c st)) (n := va_up n3 6 (n 6 + 1)) (k := 6) (by omega) wC.1.2.2.1.1 wC.1.2.2.1.2 (fun r4 s4 n4 hS4 => Mv.r ?_))
    have hS4 : SendR (mA (ansS (mL s3 18 8 r3.toInt64) n (nI c) (s.2.2.1 27 c) (cf 3) (cf 4) t5 (s.2.2.1 31 c) ans) 30 c st) 6 0 (nI c) fs fr ((mA (ansS (mL s3 18 8 r3.toInt64) n (nI c) (s.2.2.1 27 c) (cf 3) (cf 4) t5 (s.2.2.1 31 c) ans) 30 c st).2.2.2 18) (va_up n3 6 (n 6 + 1)) r4 s4 n4 := by
      have e13 : (mA (ansS (mL s3 18 8 r3.toInt64) n (nI c) (s.2.2.1 27 c) (cf 3) (cf 4) t5 (s.2.2.1 31 c) ans) 30 c st).1 13 = fs := by rw [mA_I, (ansS_13 _ _ _ _ _ _ _).1, mL_I]; exact q13
      have e14 : (mA (ansS (mL s3 18 8 r3.toInt64) n (nI c) (s.2.2.1 27 c) (cf 3) (cf 4) t5 (s.2.2.1 31 c) ans) 30 c st).1 14 = fr := by rw [mA_I, (ansS_13 _ _ _ _ _ _ _).2, mL_I]; exact q14
      rw [e13, e14] at hS4; exact hS4
    obtain ⟨G1, G2, G3, G4⟩ := hS4.F (cp := va_up cp3 15 (alC (n 6) (cp 15))) (by omega)
    refine ⟨n4, va_up cp3 15 (alC (n 6) (cp 15)), hS4.w (by omega) wC (Or.inl ⟨rfl, c, hc3, rfl⟩) (hAd.m (by omega) (by omega)), by omega, by omega, fun h y gf X kc ks k1 k2 Q hQ => ?_⟩
    have x := X.card hc
    refine isO_of x (cK_of 2 (8 + (if n 6 = cp 15 then al_cap (cp 15) else 0)) (by omega) (by omega) (s_keep X hc h30 (by omega) ht (by omega) (by omega) (fun h1 y1 p X1 ap hy4 hy1 g1 => ?_)))
    have yy : ∀ j, y1 0 j = y 0 j := fun j => hy1 0 j (by omega) (by omega) (by omega)
    have y3 : y1 3 c = y 3 c := hy1 3 c (by omega) (by omega) (by omega)
    -- the stage, the fields, the seal, the answer
    have rest : m_X1_takesAsk_L68 E (y1 3 c) (some (y1 0 5)) ans st (some (y1 3 c)) h1 (kc - 2) (ks - (8 + (if n 6 = cp 15 then al_cap (cp 15) else 0))) Q := by
      have hS3' := ((hS3.ans (m := n) (nI c) (s.2.2.1 27 c) t5 (s.2.2.1 31 c) ans (cf 3) (cf 4)).mA 30 c st (by omega) (by omega)).nn 6 15 (n 6 + 1) (alC (n 6) (cp 15)) (by omega) (by omega)
      have ev : (mA (ansS (mL s3 18 8 r3.toInt64) n (nI c) (s.2.2.1 27 c) (cf 3) (cf 4) t5 (s.2.2.1 31 c) ans) 30 c st).2.2.2 18 = vp_updL (s3.2.2.2 18) 8 r3.toInt64 := by rw [mA_L, ansS_18, mL_18]
      rw [ev] at hS4
      rw [show (256 : Int32) * 0 + (nI c).toInt64.toInt32 = nI (256 * 0 + c) from keyc 0 c] at hS3'
      have c0 : (va_up n 6 (n 6 + 1)) 0 = n 0 := va_up_ne _ _ (by omega)
      have c4 : (va_up n 6 (n 6 + 1)) 4 = n 4 := va_up_ne _ _ (by omega)
      have d32 : ((mL (mL (mL s 32 c (cf 3)) 33 c (cf 4)) 34 c t5.toInt64)).2.2.2 32 c = cf 3 ∧ ((mL (mL (mL s 32 c (cf 3)) 33 c (cf 4)) 34 c t5.toInt64)).2.2.2 33 c = cf 4 ∧ ((mL (mL (mL s 32 c (cf 3)) 33 c (cf 4)) 34 c t5.toInt64)).2.2.2 34 c = t5.toInt64 := by
        refine ⟨?_, ?_, ?_⟩ <;> simp [mL, va_up, vp_updL]
      rw [hsA] at d32 X1
      have eF : Fc (va_up n 6 (n 6 + 1)) = Fc n ∧ Fs (va_up n 6 (n 6 + 1)) (va_up cp 15 (alC (n 6) (cp 15))) = Fs n (va_up cp 15 (alC (n 6) (cp 15))) := ⟨rfl, rfl⟩
      refine s_ask68 (sM := mA (ansS (mL s3 18 8 r3.toInt64) n (nI c) (s.2.2.1 27 c) (cf 3) (cf 4) t5 (s.2.2.1 31 c) ans) 30 c st) (sC := ansS (mL (mL (mL (rowS sA l) 18 2 (s.2.2.1 27 c).toInt64) 18 6 (s.2.2.1 31 c).toInt64) 18 7 ans.toInt64) n (nI c) (s.2.2.1 27 c) (cf 3) (cf 4) t5 (s.2.2.1 31 c) ans) (l := l) (am := cf 3) (un := cf 4) (t5 := t5) X1 (by omega) (by rw [ansS_A, aA]; exact ap) hy4 (by rw [(ansS_32 _ _ _ _ _ _ _).1]; exact d32.1) (by rw [(ansS_32 _ _ _ _ _ _ _).2.1]; exact d32.2.1) (by rw [(ansS_32 _ _ _ _ _ _ _).2.2]; exact d32.2.2) (vis_ans (by rw [vis_18, vis_18, vis_18, vis_row]) _ _ _ _ _ _ _) (by omega) (by rw [ansS_A, aA]; exact hl.symm) hS3' (vis_m30 (vis_ans (vis_18 _ _ _) _ _ _ _ _ _ _) _) wC hS4 ?_ ?_ ?_ ?_ (by omega) (by omega) (fun h9 y9 R9 hy9 g9 => hQ h9 y9 R9 (hy9.trans (yy 0)) (g1.tr g9))
      · rw [pk_uLn (by decide), q18, mL_18, pk_uLn (by decide), mL_18, pk_uLn (by decide), mL_18, pk_uLs, ansS_A, aA]
      · rw [pk_uLn (by decide), q18, mL_18, pk_uLn (by decide), mL_18, pk_uLs, ansS_A, aA]
      · rw [pk_uLn (by decide), q18, mL_18, pk_uLs]
      · rw [pk_uLs]
    rw [y3, yy 5] at rest
    refine ⟨fun q => ?_, fun q => ?_⟩
    · rw [hst1 q] at rest; exact rest
    · rw [hst0 q] at rest; exact rest
  refine Mv.i (fun q => fin 2 (fun _ => rfl) (fun z => absurd q z)) (fun q => fin 0 (fun z => absurd z q) (fun _ => rfl))
end ASK
