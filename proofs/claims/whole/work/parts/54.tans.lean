/-! a terminal takes ANSWER -/
section TANS
variable {E : Ev} {A S : Nat → Prop} {h h' : Hp} {y y' : Nat → Nat → Nat} {s s' : MS} {n cp n' cp' : Nat → Nat} {kd fs fr : Int32} {cf gf v : Nat → Int64} {i u t : Nat} {r : Int32}
theorem xg.set2 {b : Nat} {e : va_E} (g : xg S h h') : xg S (xh_set h b e) (xh_set h' b e) := ⟨g.1, fun a ha hs => by
  show va_up h'.2 b e a = va_up h.2 b e a
  by_cases z : a = b
  · subst z; rw [va_up_self, va_up_self]
  · rw [va_up_ne _ _ z, va_up_ne _ _ z]; exact g.2 a ha hs⟩
theorem CX.tend {o : Int32} {wd : Int32} (X : CX E A h y s n cp kd fs fr cf gf) (ht : t < n 1) (x : xh_at h (y 5 t) (.inr (9, termL y t (y 6 t) (s.2.2.2 37 t) (s.2.2.2 38 t) (s.2.2.1 40 t) (s.2.2.2 39 t) (s.2.2.1 43 t) (s.2.2.1 46 t) (s.2.2.1 48 t) (s.2.2.1 51 t) (s.2.2.1 41 t) wd))) :
    CX E A (xh_set (xh_set h (y 5 t) (.inr (9, termL y t (y 6 t) (s.2.2.2 37 t) (s.2.2.2 38 t) o (s.2.2.2 39 t) (s.2.2.1 43 t) (s.2.2.1 46 t) (s.2.2.1 48 t) (s.2.2.1 51 t) (s.2.2.1 41 t) wd))) (y 5 t) (.inr (9, termL y t (y 6 t) (s.2.2.2 37 t) (s.2.2.2 38 t) o (s.2.2.2 39 t) (s.2.2.1 43 t) (s.2.2.1 46 t) (s.2.2.1 48 t) (s.2.2.1 51 t) 0 wd))) y (mA (mA s 40 t o) 41 t 0) n cp kd fs fr cf gf := by
  obtain ⟨wd', x', -, c0, k0, am0, un0, tt0, w0, a0, sl0, e0, -⟩ := X.1.term ht
  have n6 : y 6 t ≠ y 5 t := nP_obj x (by decide) _ _ e0
  obtain ⟨X', g'⟩ := X.tm (S := fun a => a = y 5 t) (h' := xh_set (xh_set h (y 5 t) (.inr (9, termL y t (y 6 t) (s.2.2.2 37 t) (s.2.2.2 38 t) o (s.2.2.2 39 t) (s.2.2.1 43 t) (s.2.2.1 46 t) (s.2.2.1 48 t) (s.2.2.1 51 t) (s.2.2.1 41 t) wd))) (y 5 t) (.inr (9, termL y t (y 6 t) (s.2.2.2 37 t) (s.2.2.2 38 t) o (s.2.2.2 39 t) (s.2.2.1 43 t) (s.2.2.1 46 t) (s.2.2.1 48 t) (s.2.2.1 51 t) 0 wd))) (s' := mA (mA s 40 t o) 41 t 0) (p := y 6 t) (x37 := s.2.2.2 37 t) (x38 := s.2.2.2 38 t) (x40 := o) (x39 := s.2.2.2 39 t) (x43 := s.2.2.1 43 t) (x46 := s.2.2.1 46 t) (x48 := s.2.2.1 48 t) (x51 := s.2.2.1 51 t) (x41 := 0) (x42 := s.2.2.2 42 t) (x44 := s.2.2.2 44 t) (x45 := s.2.2.2 45 t) (x47 := s.2.2.1 47 t) (x49 := s.2.2.1 49 t) (x50 := s.2.2.1 50 t) (wd := wd) ht ((xg.set (S := fun a => a = y 5 t) rfl).tr (xg.set (S := fun a => a = y 5 t) rfl)) (fun a z => Or.inl z) (fun z => absurd z n6) (Or.inl ⟨rfl, Or.inr rfl⟩) (by simp [tmv, mA, va_up, upd]) x.set.set ⟨fun z => absurd rfl z, _, _, _, _, _, _, _, _, (e0.ne n6).ne n6, fun z => absurd rfl z, fun z => absurd z (by decide), fun z => absurd z (by decide), fun z => absurd z (by decide)⟩ rfl rfl (fun j hj => by simp [tmv, mA, va_up, upd, hj]) rfl
  rw [up2_id] at X'
  exact X'
theorem CX.t50 (X : CX E A h y s n cp kd fs fr cf gf) (ht : t < n 1) (h41 : s.2.2.1 41 t = 6) (v : Int32) : CX E A h y (mA s 50 t v) n cp kd fs fr cf gf := by
  obtain ⟨wd, x, xp1, c1, k1, am1, un1, tt1, w1, a1, sl1, e1, e2, e3, e4, e5⟩ := X.1.term ht
  have hd := X.1.dj ht (by rw [h41]; decide)
  have := (X.tm (S := fun _ => False) (h' := h) (s' := mA s 50 t v) (p := y 6 t) (x50 := v) ht xg.rf (fun a z => z.elim) (fun z => z.elim) (Or.inl ⟨rfl, Or.inl hd⟩) (by simp [tmv, mA, va_up, upd]) x ⟨xp1, c1, k1, am1, un1, tt1, w1, a1, sl1, e1, e2, e3, e4, fun z => by rw [h41] at z; exact absurd z (by decide)⟩ rfl rfl (fun j hj => by simp [tmv, mA, va_up, upd, hj]) rfl).1
  rw [up2_id] at this
  exact this
theorem W2.t50 (w : W2 i u s n) (ht : t < n 1) (v : Int32) : W2 i u (mA s 50 t v) n := w.tm ht rfl rfl (fun j hj => by simp [tmv, mA, va_up, upd, hj]) (by simpa [mA, va_up] using w.2.2.2.2.2.1 t ht)
theorem vis_m50 {s1 : MS} (e : vis s1 = vis s) (v : Int32) : vis (mA s1 50 t v) = vis (mA s 50 t v) := by
  have h1 : ∀ z : MS, vis (mA z 50 t v) = vis (mA (unvis (vis z)) 50 t v) := fun _ => rfl
  rw [h1 s1, h1 s, e]
theorem vis_tend {s1 : MS} (e : vis s1 = vis s) (o : Int32) : vis (mA (mA s1 40 t o) 41 t 0) = vis (mA (mA s 40 t o) 41 t 0) := by
  have h1 : ∀ z : MS, vis (mA (mA z 40 t o) 41 t 0) = vis (mA (mA (unvis (vis z)) 40 t o) 41 t 0) := fun _ => rfl
  rw [h1 s1, h1 s, e]
theorem vis_batc {m : Nat} (s : MS) (v0 v1 v2 v3 v4 v5 v6 : Int64) (o : Int32) : vis (mA (mA (batS s m t v0 v1 v2 v3 v4 v5 v6) 40 t o) 41 t 0) = vis (batS (mA (mA s 40 t o) 41 t 0) m t v0 v1 v2 v3 v4 v5 v6) := rfl
/-- what the class does behind its three writes -/
def ansR (E : Ev) (a0 a5 : Nat) (q7 : Int32) (h3 : Hp) (kc ks : Nat) (Q : Hp → Prop) : Prop :=
  br (q7 = 1) (gR h3 a0 9 9 fun r60 => isO h3 a0 9 (cK kc ks fun mc62 ms63 kc64 ks65 => m_X8_sendToHost E a0 7 r60 h3 mc62 ms63 (fun x66 h67 => isO h67 a0 9 (m_X8_waitFor E a0 8 h67 0 0 (fun h70 => Q h70))))) (gR h3 a0 9 9 fun r35 => nN r35 fun a37 => gI h3 a37 6 6 fun x38 => br (x38 = 2) (isO h3 a0 9 (m_X8_isGoodWithoutHost E a0 (some a5) h3 0 0 (fun x41 h42 => br (x41 = 0) (m_X8_takeAnswer_L109 E a0 h42 kc ks Q) (gR h42 a0 9 4 fun r45 => gR h42 a0 9 9 fun r47 => nN r45 fun a55 => isO h42 a55 0 (cK kc ks fun mc49 ms50 kc51 ks52 => m_Jx4a65c_add_9ea2d E a55 r47 h42 mc49 ms50 (fun x53 h54 => isO h54 a0 9 (m_X8_end E a0 2 h54 0 0 (fun h58 => Q h58)))))))) (m_X8_takeAnswer_L109 E a0 h3 kc ks Q))
theorem s_ans3 {q2 q7 : Nat} {kc ks : Nat} {Q : Hp → Prop} {c0 kk w0 a0 : Int32} {am un sl : Int64} (X : CX E A h y s n cp kd fs fr cf gf) (ht : t < n 1) (h41 : s.2.2.1 41 t = 6) (ap : PAY h (y 6 t) c0 kk am un (nI t) w0 a0 sl) (hw0 : w0 = s.2.2.1 49 t) (e2 : cf 2 = (nI q2).toInt64) (e7 : cf 7 = (nI q7).toInt64)
    (hn : ∀ h3, CX E A h3 y s n cp kd fs fr cf gf → PAY h3 (y 6 t) c0 (nI q2) am un (nI t) w0 (nI q7) (cf 8) → xg A h h3 → ansR E (y 5 t) (y 0 5) (nI q7) h3 kc ks Q) : m_X8_takeAnswer E (y 5 t) (some (y 0 5)) h kc ks Q := by
  have z2 : (cf 2).toInt32 = nI q2 := by rw [e2, Int32.toInt32_toInt64]
  have z7 : (cf 7).toInt32 = nI q7 := by rw [e7, Int32.toInt32_toInt64]
  have no8 : (s.2.2.1 41 t = 8 ∨ s.2.2.1 41 t = 10) → False := fun z => by rw [h41] at z; exact absurd z (by decide)
  obtain ⟨wd, x, -⟩ := X.1.term ht
  have hd := X.1.dj ht (by rw [h41]; decide)
  refine gR_of x rfl (nN_of (isO_of X.2.1 (gR_of X.2.1 rfl (nN_of (aL_of X.2.2.1 (j := 2) rfl (by omega) (by omega) rfl (nN_of (pV_of ap (by show 1 < 8; decide) ?_)))))))
  rw [z2]
  obtain ⟨X1, g1⟩ := X.pw ht hd ap (nI q2) w0 a0 sl (fun _ => hw0) (fun z => (no8 z).elim)
  have ap1 : PAY _ (y 6 t) c0 (nI q2) am un (nI t) w0 a0 sl := ap.set
  obtain ⟨wd1, x1, -⟩ := X1.1.term ht
  refine gR_of x1 rfl (isO_of X1.2.1 (gR_of X1.2.1 rfl (nN_of (aL_of X1.2.2.1 (j := 7) rfl (by omega) (by omega) rfl (nN_of (pV_of ap1 (by show 6 < 8; decide) ?_))))))
  rw [z7]
  obtain ⟨X2, g2⟩ := X1.pw ht hd ap1 (nI q2) w0 (nI q7) sl (fun _ => hw0) (fun z => (no8 z).elim)
  have ap2 : PAY _ (y 6 t) c0 (nI q2) am un (nI t) w0 (nI q7) sl := ap1.set
  obtain ⟨wd2, x2, -⟩ := X2.1.term ht
  refine gR_of x2 rfl (gR_of X2.2.1 rfl (nN_of (aL_of X2.2.2.1 (j := 8) rfl (by omega) (by omega) rfl (nN_of (pV_of ap2 (by show 7 < 8; decide) ?_)))))
  obtain ⟨X3, g3⟩ := X2.pw ht hd ap2 (nI q2) w0 (nI q7) (cf 8) (fun _ => hw0) (fun z => (no8 z).elim)
  have ap3 : PAY _ (y 6 t) c0 (nI q2) am un (nI t) w0 (nI q7) (cf 8) := ap2.set
  obtain ⟨wd3, x3, -⟩ := X3.1.term ht
  exact gR_of x3 rfl (nN_of (gI_of ap3 rfl (hn _ X3 ap3 (g1.tr (g2.tr g3)))))
theorem M_tans_host {q2 : Nat} (ht : t < 8) (e2 : (cf 2).toInt32 = nI q2) (f2 : s.2.2.2 17 2 = cf 2) : ((M_fill s (nI t) (cf 2) (cf 8)).bind fun s58 => if ((2 : Int32) < 0 ∨ 12 ≤ ((2 : Int32)).toNatClampNeg) then none else if (nI t < 0 ∨ 8 ≤ (nI t).toNatClampNeg) then none else lt1 (mA s58 50 (nI t).toNatClampNeg ((s58.2.2.2 17 ((2 : Int32)).toNatClampNeg).toInt32)) fun s63 => (M_sign s63 (nI t) 7).bind fun s66 => (M_send s66 7 1 (nI t) 2 0).bind fun px69 => lt1 px69.1 fun x69 => lt1 px69.2 fun s70 => if (nI t < 0 ∨ 8 ≤ (nI t).toNatClampNeg) then none else lt1 (mA s70 41 (nI t).toNatClampNeg 8) fun s74 => if (nI t < 0 ∨ 8 ≤ (nI t).toNatClampNeg) then none else lt1 (mL s74 42 (nI t).toNatClampNeg s74.2.1) fun s77 => some s77) = (M_seal (rowS (mA (fillS s t (cf 2) (cf 8)) 50 t (nI q2)) (sgL 7 ((fillS s t (cf 2) (cf 8)).2.2.2 18))) 1 (nI t).toInt64).bind fun px => (M_send (mL px.2 18 11 px.1.toInt64) 7 1 (nI t) 2 0).bind fun px69 => some (wtS px69.2 t 8) := by
  have cc : (nI t).toNatClampNeg = t := nI_clamp (by omega)
  have cb : (nI t < 0 ∨ 8 ≤ t) = False := ixF (by omega) (by omega)
  rw [M_fill_eq _ ht, Option.bind_some]
  dsimp only [lt1]
  simp only [cc, cb, if_false, tC2, tB2, fillS_17, f2, e2]
  rw [show (7 : Int32) = nI 7 from rfl, M_sign_eq, Option.bind_assoc]
  rfl
end TANS
