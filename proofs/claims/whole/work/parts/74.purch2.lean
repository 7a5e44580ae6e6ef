section PURCH2
variable {E : Ev} {A S : Nat → Prop} {h h' : Hp} {y y' : Nat → Nat → Nat} {s s' : MS} {n cp n' cp' : Nat → Nat} {i u k m kc ks t c : Nat} {r : Int32}
theorem RXo.un3 (R : RXo E A h y (wtS (z3 s t) t (nI 2)) n cp) (ht : t < n 1) : RXo E A h y (wtS s t (nI 2)) n cp := by
  have e41 : (wtS (z3 s t) t (nI 2)).2.2.1 41 t = nI 2 := by simp [wtS, z3, mA, mL, va_up, upd]
  have e42 : (wtS (z3 s t) t (nI 2)).2.2.2 42 t = s.2.1 := by simp [wtS, z3, mA, mL, va_up, vp_updL]
  obtain ⟨wd, x, xp⟩ := R.term ht
  have hd := R.dj ht (by rw [e41]; decide)
  rw [e41] at x
  rw [e41, e42] at xp
  obtain ⟨xp1, c1, k1, am1, un1, tt1, w1, a1, sl1, e1, e2, -⟩ := xp
  have := (R.tm (S := fun _ => False) (h' := h) (s' := wtS s t (nI 2)) (p := y 6 t) (x37 := s.2.2.2 37 t) (x38 := s.2.2.2 38 t) (x40 := s.2.2.1 40 t) (x39 := s.2.2.2 39 t) (x43 := s.2.2.1 43 t) (x46 := s.2.2.1 46 t) (x48 := s.2.2.1 48 t) (x51 := s.2.2.1 51 t) (x41 := nI 2) (x42 := s.2.1) (x44 := s.2.2.2 44 t) (x45 := s.2.2.2 45 t) (x47 := s.2.2.1 47 t) (x49 := s.2.2.1 49 t) (x50 := s.2.2.1 50 t) (wd := wd) ht xg.rf (fun a z => z.elim) (fun z => z.elim) (Or.inl ⟨rfl, Or.inl hd⟩) (by simp [tmv, wtS, mA, mL, va_up, upd, vp_updL]) x ⟨xp1, c1, k1, am1, un1, tt1, w1, a1, sl1, e1, e2, fun z => absurd z (by decide), fun z => absurd z (by decide), fun z => absurd z (by decide)⟩ rfl rfl (fun j hj => by simp [tmv, wtS, z3, mA, mL, va_up, upd, vp_updL, hj]) rfl).1
  rw [up2_id] at this
  exact this
theorem RXo.fr {p : Nat} (R : RXo E A h y s n cp) (hp : p ∉ h.1) : (∀ j, j < n 1 → y 6 j ≠ p) ∧ (∀ j, j < n 0 → y 4 j ≠ p) ∧ (∀ j, j < n 6 → y 13 j ≠ p) ∧ (∀ j, j < n 3 → y 14 j ≠ p) ∧ ∀ j, j < n 7 → s.2.2.1 55 j = 0 → y 16 j ≠ p := by
  obtain ⟨Ra, Rn, Rf, Rl, Rm, Rc, Rt, Rs, p1, p2, p3, p4, p5⟩ := R
  refine ⟨fun j hj e => ?_, fun j hj e => ?_, fun j hj e => ?_, fun j hj e => ?_, fun j hj hz e => ?_⟩
  · obtain ⟨_, _, _, _, _, _, _, _, _, _, _, e1, _⟩ := Rt j hj
    exact hp (by rw [← e]; exact e1.1)
  · obtain ⟨d1, ⟨_, _, _, _, _, _, _, _, e1, _⟩, d3⟩ := Rc j hj
    exact hp (by rw [← e]; exact e1.1)
  · obtain ⟨_, _, _, _, _, _, _, _, e1, _⟩ := p2 j hj
    exact hp (by rw [← e]; exact e1.1)
  · obtain ⟨_, _, _, _, _, _, _, _, e1, _⟩ := p3 j hj
    exact hp (by rw [← e]; exact e1.1)
  · obtain ⟨_, _, _, _, _, _, _, _, e1, _⟩ := p4 j hj hz
    exact hp (by rw [← e]; exact e1.1)
theorem vis_z3p (s : MS) (m : Nat → Nat) (t : Nat) (cc k tt ww a : Int32) (am un d : Int64) : vis (z3 (mL (purS s m cc k am un tt ww a) 18 4 d) t) = vis (purS (z3 s t) m cc k am un tt ww a) := rfl
theorem J_start {am : Int64} {pin : Int32} (R : RXo E A h y s n cp) (w : W2 i u s n) (hi : i < 512) (ht : t < n 1) (hc : c < n 0) : Mw ((M_toItsCard (mL (purS (pP s t (drw (s.2.2.2 39 t)) am pin (nI c)) n 0 0 am (drw (s.2.2.2 39 t)) (nI t) 0 0) 18 4 (drw (s.2.2.2 39 t))) (nI t) 1 2).bind fun s47 => some ((s47.2.2.2 45 t).toInt32, s47)) (JP E A h y n cp (i + 1) u (fun kc ks Q => m_X8_start E (y 5 t) (nI c) am pin h kc ks Q)) := by
  have hn0 := R.2.1.1.2
  have hn1 := R.2.1.2.1.2
  have hn2 := R.2.1.2.2.1
  have hn5 : n 5 ≤ i := w.1.2.2.2.2.2.1.2
  have hcp := R.2.1.2.2.2.2.2.2.2.2.2.2
  have wP := (w.pP ht hc (drw (s.2.2.2 39 t)) am pin).pur 0 0 (nI t) 0 0 am (drw (s.2.2.2 39 t))
  obtain ⟨o44, o45, o18, o43⟩ := pP_44 s t (drw (s.2.2.2 39 t)) am pin (nI c)
  have k44 : (mL (purS (pP s t (drw (s.2.2.2 39 t)) am pin (nI c)) n 0 0 am (drw (s.2.2.2 39 t)) (nI t) 0 0) 18 4 (drw (s.2.2.2 39 t))).2.2.2 44 t = am := by rw [(mL18_o _ _ _).1, (purS_44 _ _ _ _ _ _ _).1, o44]
  have k45 : (mL (purS (pP s t (drw (s.2.2.2 39 t)) am pin (nI c)) n 0 0 am (drw (s.2.2.2 39 t)) (nI t) 0 0) 18 4 (drw (s.2.2.2 39 t))).2.2.2 45 t = drw (s.2.2.2 39 t) := by rw [(mL18_o _ _ _).2, (purS_44 _ _ _ _ _ _ _).2.1, o45]
  have k18 : (mL (purS (pP s t (drw (s.2.2.2 39 t)) am pin (nI c)) n 0 0 am (drw (s.2.2.2 39 t)) (nI t) 0 0) 18 4 (drw (s.2.2.2 39 t))).2.2.2 18 = vp_updL (s.2.2.2 18) 4 (drw (s.2.2.2 39 t)) := by rw [mL_18, (purS_44 _ _ _ _ _ _ _).2.2, o18]
  have k43 : (mL (purS (pP s t (drw (s.2.2.2 39 t)) am pin (nI c)) n 0 0 am (drw (s.2.2.2 39 t)) (nI t) 0 0) 18 4 (drw (s.2.2.2 39 t))).2.2.1 43 t = nI c := by rw [mL_A, purS_43, o43]
  have k39 : (mL (purS (pP s t (drw (s.2.2.2 39 t)) am pin (nI c)) n 0 0 am (drw (s.2.2.2 39 t)) (nI t) 0 0) 18 4 (drw (s.2.2.2 39 t))).2.2.2 39 t = drw (s.2.2.2 39 t) := by simp [purS, pP, mA, mL, mI, va_up, vp_updL]
  have wG : W2 (i + 1) u (mL (purS (pP s t (drw (s.2.2.2 39 t)) am pin (nI c)) n 0 0 am (drw (s.2.2.2 39 t)) (nI t) 0 0) 18 4 (drw (s.2.2.2 39 t))) (va_up n 5 (n 5 + 1)) := wP.eqv (vis_18 _ _ _)
  have vz := vis_z3p (pP s t (drw (s.2.2.2 39 t)) am pin (nI c)) n t 0 0 (nI t) 0 0 am (drw (s.2.2.2 39 t)) (drw (s.2.2.2 39 t))
  generalize hsG : mL (purS (pP s t (drw (s.2.2.2 39 t)) am pin (nI c)) n 0 0 am (drw (s.2.2.2 39 t)) (nI t) 0 0) 18 4 (drw (s.2.2.2 39 t)) = sG at k44 k45 k18 k43 k39 wG vz ⊢
  have e2 : (va_up n 5 (n 5 + 1)) 2 = n 2 := va_up_ne _ _ (by omega)
  refine Mw.bv (M_toItsCard_spec (n := va_up n 5 (n 5 + 1)) (k := 1) (x := 2) (by omega) wG.1.2.2.1.1 (by omega) (by omega) (fun r1 s1 n1 hS => ?_))
  rw [k43, k18] at hS
  have hn9' : (va_up n 5 (n 5 + 1)) 2 ≤ (va_up n 5 (n 5 + 1)) 9 ∧ (va_up n 5 (n 5 + 1)) 9 ≤ 60 := hn2.2
  have hgF := grow_F (n := n) (cp := cp) (j0 := 14) (m := n 5) (by omega) (by omega) hcp (by omega) (cp10 R (by omega) (by omega))
  obtain ⟨G1, G2, G3, G4⟩ := hS.F (cp := va_up cp 14 (alC (n 5) (cp 14))) hn9'
  have G1' : Fc n1 ≤ Fc n := G1
  have G2' : Fs n1 (va_up cp 14 (alC (n 5) (cp 14))) ≤ Fs n (va_up cp 14 (alC (n 5) (cp 14))) := G2
  obtain ⟨S1, S2, S3, S4, -⟩ := hS.sc
  have m0 : n1 0 = n 0 := G4 0 (by omega) (by omega)
  have m1 : n1 1 = n 1 := G4 1 (by omega) (by omega)
  have ht5 : t < (va_up n 5 (n 5 + 1)) 1 := ht
  have hc5 : c < (va_up n 5 (n 5 + 1)) 0 := hc
  have w1 := hS.w (by omega) wG (Or.inr (Or.inl ⟨rfl, t, ht5, rfl⟩)) (Or.inl ⟨rfl, c, hc5, rfl⟩)
  have hgg := hgF.1
  have er : ((wtS s1 t (nI 2)).2.2.2 45 t).toInt32 = (drw (s.2.2.2 39 t)).toInt32 := by
    have : (wtS s1 t (nI 2)).2.2.2 45 t = s1.2.2.2 45 t := by simp [wtS, mL, mA, va_up]
    rw [this, S2, k45]
  refine Mw.r ?_
  rw [er]
  refine ⟨n1, va_up cp 14 (alC (n 5) (cp 14)), w1.wt (x := 2) (by omega) (by omega) ⟨c, by omega, by rw [S3 43 (by omega), k43]⟩ (fun z => absurd rfl z), G1', by omega, fun kc ks q1 q2 Q hQ => ?_⟩
  -- the class
  obtain ⟨kd, fs, fr, cf, gf, X⟩ := CX.of R
  obtain ⟨wd, x, xp1, c1, kk1, am1, un1, tt1, w1', a1, sl1, e1, -⟩ := R.term ht
  refine gL_of x rfl (fun y3 ey3 => ?_)
  have ey3' : y3 = drw (s.2.2.2 39 t) := ey3
  subst ey3'
  clear ey3
  generalize hd : drw (s.2.2.2 39 t) = d at *
  refine pV_of x (by show 6 < 14; decide) (pV_of x.set (by show 7 < 14; decide) (pV_of x.set.set (by show 8 < 14; decide) (pV_of x.set.set.set (by show 5 < 14; decide) ⟨kc - 1, ks - 8, by omega, by omega, fun p h1 hp eh => ?_⟩)))
  have hp0 : p ∉ h.1 := hp
  have x4 := (((x.set (e' := .inr (9, termL y t (y 6 t) (s.2.2.2 37 t) (s.2.2.2 38 t) (s.2.2.1 40 t) d (s.2.2.1 43 t) (s.2.2.1 46 t) (s.2.2.1 48 t) (s.2.2.1 51 t) (s.2.2.1 41 t) wd))).set (e' := .inr (9, termL y t (y 6 t) (s.2.2.2 37 t) (s.2.2.2 38 t) (s.2.2.1 40 t) d (nI c) (s.2.2.1 46 t) (s.2.2.1 48 t) (s.2.2.1 51 t) (s.2.2.1 41 t) wd))).set (e' := .inr (9, termL y t (y 6 t) (s.2.2.2 37 t) (s.2.2.2 38 t) (s.2.2.1 40 t) d (nI c) pin (s.2.2.1 48 t) (s.2.2.1 51 t) (s.2.2.1 41 t) wd))).set (e' := .inr (9, termL y t (y 6 t) (s.2.2.2 37 t) (s.2.2.2 38 t) 0 d (nI c) pin (s.2.2.1 48 t) (s.2.2.1 51 t) (s.2.2.1 41 t) wd))
  have x5 : xh_at h1 (y 5 t) (.inr (9, termL y t (y 6 t) (s.2.2.2 37 t) (s.2.2.2 38 t) 0 d (nI c) pin (s.2.2.1 48 t) (s.2.2.1 51 t) (s.2.2.1 41 t) wd)) := by rw [eh]; exact x4.new hp
  have pp : xh_at h1 p (.inr (6, [.int 0, .int 0, .long 0, .long 0, .int 0, .int 0, .int 0, .long 0])) := by rw [eh]; exact xh_at.newq
  have npc : p ≠ y 5 t := fun z => hp0 (by rw [z]; exact x.1)
  have g1 : xg (fun a => a = y 5 t) h h1 := by rw [eh]; exact ((((xg.set (S := fun a => a = y 5 t) rfl).tr (xg.set (S := fun a => a = y 5 t) rfl)).tr (xg.set (S := fun a => a = y 5 t) rfl)).tr (xg.set (S := fun a => a = y 5 t) rfl)).tr (xg.new hp)
  refine pV_of x5 (by show 9 < 14; decide) ?_
  have x6 := x5.set (e' := .inr (9, termL y t p (s.2.2.2 37 t) (s.2.2.2 38 t) 0 d (nI c) pin (s.2.2.1 48 t) (s.2.2.1 51 t) (s.2.2.1 41 t) wd))
  have p6 := pp.ne (e' := .inr (9, termL y t p (s.2.2.2 37 t) (s.2.2.2 38 t) 0 d (nI c) pin (s.2.2.1 48 t) (s.2.2.1 51 t) (s.2.2.1 41 t) wd)) npc
  have g6 : xg (fun a => a = y 5 t) h (xh_set h1 (y 5 t) (.inr (9, termL y t p (s.2.2.2 37 t) (s.2.2.2 38 t) 0 d (nI c) pin (s.2.2.1 48 t) (s.2.2.1 51 t) (s.2.2.1 41 t) wd))) := g1.tr (xg.set rfl)
  refine gR_of x6 rfl (gI_of x6 rfl (nN_of (pV_of p6 (by show 4 < 8; decide) ?_)))
  have x7 := x6.ne (e' := .inr (6, [.int 0, .int 0, .long 0, .long 0, .int (nI t), .int 0, .int 0, .long 0])) (fun z => npc z.symm)
  have p7 := p6.set (e' := .inr (6, [.int 0, .int 0, .long 0, .long 0, .int (nI t), .int 0, .int 0, .long 0]))
  refine gR_of x7 rfl (nN_of (pV_of p7 (by show 2 < 8; decide) ?_))
  have x8 := x7.ne (e' := .inr (6, [.int 0, .int 0, .long am, .long 0, .int (nI t), .int 0, .int 0, .long 0])) (fun z => npc z.symm)
  have p8 := p7.set (e' := .inr (6, [.int 0, .int 0, .long am, .long 0, .int (nI t), .int 0, .int 0, .long 0]))
  refine gR_of x8 rfl (gL_of x8 rfl (nN_of (pV_of p8 (by show 3 < 8; decide) ?_)))
  have x9 := x8.ne (e' := .inr (6, [.int 0, .int 0, .long am, .long d, .int (nI t), .int 0, .int 0, .long 0])) (fun z => npc z.symm)
  have p9 : PAY _ p 0 0 am d (nI t) 0 0 0 := p8.set (e' := .inr (6, [.int 0, .int 0, .long am, .long d, .int (nI t), .int 0, .int 0, .long 0]))
  have g9 := ((g6.setn (e := .inr (6, [.int 0, .int 0, .long 0, .long 0, .int (nI t), .int 0, .int 0, .long 0])) hp0).setn (e := .inr (6, [.int 0, .int 0, .long am, .long 0, .int (nI t), .int 0, .int 0, .long 0])) hp0).setn (e := .inr (6, [.int 0, .int 0, .long am, .long d, .int (nI t), .int 0, .int 0, .long 0])) hp0
  have n6 : y 6 t ≠ y 5 t := nP_obj x (by decide) _ _ e1
  obtain ⟨X1, gA1⟩ := X.tm (S := fun a => a = y 5 t) (s' := z3 (pP s t d am pin (nI c)) t) (p := p) (x37 := s.2.2.2 37 t) (x38 := s.2.2.2 38 t) (x40 := 0) (x39 := d) (x43 := nI c) (x46 := pin) (x48 := s.2.2.1 48 t) (x51 := s.2.2.1 51 t) (x41 := s.2.2.1 41 t) (x42 := s.2.2.2 42 t) (x44 := am) (x45 := d) (x47 := 0) (x49 := 0) (x50 := 0) (wd := wd) ht g9 (fun a z => Or.inl z) (fun z => absurd z n6) (Or.inr hp0) (by simp [tmv, z3, pP, mA, mL, va_up, upd, vp_updL]) x9 ⟨xp1, 0, 0, am, d, nI t, 0, 0, 0, p9, fun _ => ⟨rfl, rfl, rfl⟩, fun _ => rfl, fun _ => rfl, fun _ => rfl⟩ rfl rfl (fun j hj => by simp [tmv, z3, pP, mA, mL, va_up, upd, vp_updL, hj]) rfl
  obtain ⟨fr1, fr2, fr3, fr4, fr5⟩ := R.fr hp0
  have l2 := X1.1.2.2.2.1.2.2.1
  refine gR_of x9 rfl (nN_of (gR_of X1.world rfl (gR_of x9 rfl (nN_of (l2.isO (cK_of 1 (if n 5 = cp 14 then al_cap (cp 14) else 0) (by omega) (by omega) (s_add l2 ⟨6, _, by omega, p9⟩ (by have := hcp 14; omega) (fun z => ⟨Nat.le_refl _, by rw [if_pos z]; exact Nat.le_refl _⟩) (fun h2 d' c' al ga hdd => ?_))))))))
  obtain ⟨R2, gB⟩ := X1.1.pur (by omega) p9 (R.1.1 p hp0) ga al hdd
  have ec : c' = alC (n 5) (cp 14) := by
    unfold alC
    rcases hdd with ⟨w1, w2, w3⟩ | ⟨w1, w2, w3⟩
    · rw [if_neg (by omega)]; exact w3
    · rw [if_pos w1]; exact w3
  rw [ec] at R2
  have X2 := X1.ys R2 (alS.ys (n := n) (j0 := 14) (by omega) (by omega) ga) ⟨by omega, by omega, by omega⟩ (fun _ => rfl)
  have x10 := ga.at x9 (alS.no X1.1 (by omega) (by omega) (ly5 ht) (by omega) (by omega))
  have p10 : PAY h2 p 0 0 am d (nI t) 0 0 0 := ga.at p9 (alS.pay X1.1 (by omega) (by omega) _ _ p9)
  obtain ⟨b1, b2, b3, go⟩ := X2.goes
  refine gR_of x10 rfl (nN_of (gR_of X2.world rfl (nN_of (gR_of go rfl (gL_of x10 rfl (nN_of (sL_of X2.2.2.2 (j := 4) rfl (by omega) (by omega) ?_)))))))
  obtain ⟨X3, g3⟩ := X2.gs 4 d
  have p11 := X2.g1 p10 4 d
  have X4 := X3.eqv (s' := z3 sG t) vz
  have x11 := x10.ne (e' := .inl (E.1 1, 12, .inr (.inl (vp_updL gf 4 d)))) (x10.neq X2.2.2.2 (by intro z; cases z))
  have hSz : SendR (z3 sG t) 1 1 (nI t) 0 ((z3 sG t).2.2.1 43 t) (vp_updL (s.2.2.2 18) 4 d) (va_up n 5 (n 5 + 1)) r1 (z3 s1 t) n1 := by
    have e43 : (z3 sG t).2.2.1 43 t = nI c := by rw [← k43]; simp [z3, mA, va_up]
    rw [e43]
    exact ((hS.mA (k := 47) (j := t) (v := 0) (by omega)).mA (k := 49) (j := t) (v := 0) (by omega)).mA (k := 50) (j := t) (v := 0) (by omega)
  have wZ : W2 (i + 1) u (z3 sG t) (va_up n 5 (n 5 + 1)) := by
    refine wG.tm ht5 rfl rfl (fun j hj => by simp [tmv, z3, mA, va_up, upd, hj]) (fun q => ?_)
    have e41 : (z3 sG t).2.2.1 41 t = sG.2.2.1 41 t := by simp [z3, mA, va_up]
    have e43 : (z3 sG t).2.2.1 43 t = sG.2.2.1 43 t := by simp [z3, mA, va_up]
    have e47 : (z3 sG t).2.2.1 47 t = nI 0 := (show (z3 sG t).2.2.1 47 t = 0 by simp [z3, mA, va_up, upd]).trans nI_0.symm
    rw [e41] at q ⊢
    rw [e43, e47]
    obtain ⟨a1, a2, a3⟩ := wG.2.2.2.2.2.1 t ht5 q
    exact ⟨a1, a2, fun _ => ⟨0, by omega, rfl⟩⟩
  refine isO_of x11 (cK_of (Fc n - Fc n1) (Fs n (va_up cp 14 (alC (n 5) (cp 14))) - Fs n1 (va_up cp 14 (alC (n 5) (cp 14)))) (by omega) (by omega) ?_)
  have z44 : (z3 sG t).2.2.2 = sG.2.2.2 := rfl
  have y6t : (up2 (up2 (up2 y 6 t p) 12 (n 5) p) 15 14 d') 6 t = p := by
    show va_up (y 6) t p t = p
    exact va_up_self _ _ _
  have hdj : DJ (up2 (up2 (up2 y 6 t p) 12 (n 5) p) 15 14 d') (va_up n 5 (n 5 + 1)) (z3 sG t) t ((up2 (up2 (up2 y 6 t p) 12 (n 5) p) 15 14 d') 6 t) := by
    rw [y6t]
    have e55 : (z3 sG t).2.2.1 55 = s.2.2.1 55 := by rw [← hsG]; rfl
    refine ⟨fun j hj hn => ?_, fun j hj => fr2 j hj, fun j hj => fr3 j hj, fun j hj => fr4 j hj, fun j hj hz => fr5 j hj (by rw [← e55]; exact hz)⟩
    show va_up (y 6) t p j ≠ p
    rw [va_up_ne _ _ hn]
    exact fr1 j hj
  have key := s_toCard (k := 1) (x := 2) (kc := Fc n - Fc n1) (ks := Fs n (va_up cp 14 (alC (n 5) (cp 14))) - Fs n1 (va_up cp 14 (alC (n 5) (cp 14)))) (Q := fun h76 => gL h76 (y 5 t) 9 6 fun y78 => Q y78.toInt32 h76) X4 wZ ht5 (by omega) (by omega) hdj (by rw [y6t]; exact p11) (by rw [z44, k44]) (by rw [z44, k45]) (fun z => absurd rfl z) (fun z => absurd rfl z) (fun z => by omega) (fun q q1 q2 hq => ?_) hSz (by show Fc n ≤ _; omega) (by show Fs n _ ≤ _; omega) (fun h9 y9 R9 hy9 g9' => ?_)
  · exact key
  · have := tg1 q q2 hq
    subst this
    rw [pk_uLs, pk_uLs]
  · have y95 : y9 5 t = y 5 t := hy9 5 t (by omega) (by omega)
    have R10 := R9.un3 (by omega)
    obtain ⟨wd9, x12, -⟩ := R10.term (t := t) (by omega)
    rw [y95] at x12
    have e39 : (wtS s1 t (nI 2)).2.2.2 39 t = d := by
      have : (wtS s1 t (nI 2)).2.2.2 39 t = s1.2.2.2 39 t := by simp [wtS, mL, mA, va_up]
      rw [this, S2, k39]
    rw [e39] at x12
    exact gL_of x12 rfl (hQ h9 y9 R10 (hy9 0 0 (by omega) (by omega)) (gA1.tr (gB.tr (g3.tr g9'))))
end PURCH2
