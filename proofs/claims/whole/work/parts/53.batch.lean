/-! a terminal's batch -/
def batS (s : MS) (m t : Nat) (v0 v1 v2 v3 v4 v5 v6 : Int64) : MS := mI (mA (mA (mL (mL (mL (mL (mL (mL (mL s 56 (7 * m) v0) 56 (7 * m + 1) v1) 56 (7 * m + 2) v2) 56 (7 * m + 3) v3) 56 (7 * m + 4) v4) 56 (7 * m + 5) v5) 56 (7 * m + 6) v6) 54 m (nI t)) 55 m 0) 53 (nI (m + 1))
section BATCH
variable {E : Ev} {A S : Nat → Prop} {h h' : Hp} {y y' : Nat → Nat → Nat} {s s' : MS} {n cp : Nat → Nat} {i u t : Nat} {v0 v1 v2 v3 v4 v5 v6 : Int64}
theorem bat_step (m : Nat) (s : MS) (t b : Nat) {j : Nat} (hj : j < 6) (hb : b + j < 4200) : M_takeAnswer_L266 (m + 1) s (nI t) (nI b) (nI j) = M_takeAnswer_L266 m (mL s 56 (b + j) (s.2.2.2 18 (j + 1))) (nI t) (nI b) (nI (j + 1)) := by
  rw [M_takeAnswer_L266]
  rw [if_neg (show ¬ (7 : Int32) ≤ nI j from nI_ge (a := j) (b := 7) (by omega) (by omega)), if_neg (show ¬ (6 : Int32) ≤ nI j from nI_ge (a := j) (b := 6) (by omega) (by omega))]
  unfold M_takeAnswer_L297
  rw [nI_add, nI_1, if_neg (nI_in (by omega) (by omega)), if_neg (nI_in (by omega) (by omega)), nI_clamp (by omega), nI_clamp (by omega)]
  rfl
theorem bat_6 (m : Nat) (s : MS) (t b : Nat) (hb : b + 6 < 4200) : M_takeAnswer_L266 (m + 1) s (nI t) (nI b) (nI 6) = M_takeAnswer_L266 m (mL s 56 (b + 6) (s.2.2.2 18 8)) (nI t) (nI b) (nI 7) := by
  rw [M_takeAnswer_L266]
  rw [if_neg (show ¬ (7 : Int32) ≤ nI 6 by decide), if_pos (show (6 : Int32) ≤ nI 6 by decide)]
  unfold M_takeAnswer_L297
  rw [nI_add, if_neg (by decide), if_neg (nI_in (by omega) (by omega)), nI_clamp (by omega), tC8]
  rfl
theorem bat_7 (m : Nat) (s : MS) (t b k : Nat) (h53 : s.1 53 = nI k) (hk : k < 600) : M_takeAnswer_L266 (m + 1) s (nI t) (nI b) (nI 7) = (M_end (mI (mA (mA s 54 k (nI t)) 55 k 0) 53 (nI (k + 1))) (nI t) 2).bind fun s99 => some s99 := by
  rw [M_takeAnswer_L266]
  rw [if_pos (show (7 : Int32) ≤ nI 7 by decide), h53, if_neg (nI_in (by omega) (by omega)), nI_clamp (by omega)]
  dsimp only [lt1]
  rw [show (mA s 54 k (nI t)).1 53 = nI k from h53, if_neg (nI_in (by omega) (by omega)), nI_clamp (by omega), show (mA (mA s 54 k (nI t)) 55 k (vp_nar .boolean 0)).1 53 = nI k from h53, nI_1]
  rfl
theorem mL56_18 (s : MS) (j : Nat) (v : Int64) : (mL s 56 j v).2.2.2 18 = s.2.2.2 18 := rfl
theorem bat_eq (s : MS) (t k : Nat) (h53 : s.1 53 = nI k) (hk : k < 600) : M_takeAnswer_L266 mfu s (nI t) (7 * s.1 53) 0 = (M_end (batS s k t (s.2.2.2 18 1) (s.2.2.2 18 2) (s.2.2.2 18 3) (s.2.2.2 18 4) (s.2.2.2 18 5) (s.2.2.2 18 6) (s.2.2.2 18 8)) (nI t) 2).bind fun s99 => some s99 := by
  obtain ⟨m, hm⟩ : ∃ m, mfu = m + 1 + 1 + 1 + 1 + 1 + 1 + 1 + 1 := ⟨8184, by unfold mfu; omega⟩
  rw [hm, h53, show (7 : Int32) * nI k = nI (7 * k) from pk_mul 7 _, ← nI_0]
  rw [bat_step _ _ t _ (by omega) (by omega), bat_step _ _ t _ (by omega) (by omega), bat_step _ _ t _ (by omega) (by omega), bat_step _ _ t _ (by omega) (by omega), bat_step _ _ t _ (by omega) (by omega), bat_step _ _ t _ (by omega) (by omega), bat_6 _ _ t _ (by omega), bat_7 _ _ t _ k (by simp only [mL_I]; exact h53) hk]
  simp only [mL56_18]
  rfl
theorem batS_54 {m : Nat} : (batS s m t v0 v1 v2 v3 v4 v5 v6).2.2.1 54 = upd (s.2.2.1 54) m (nI t) := rfl
theorem batS_55 {m : Nat} : (batS s m t v0 v1 v2 v3 v4 v5 v6).2.2.1 55 = upd (s.2.2.1 55) m 0 := rfl
theorem batS_56 {m : Nat} : (batS s m t v0 v1 v2 v3 v4 v5 v6).2.2.2 56 = up7 (s.2.2.2 56) m v0 v1 v2 v3 v4 v5 v6 := by
  unfold batS up7 mL mI mA
  simp only [va_up2, va_up_self]
theorem bl_c {m : Nat} (he : ∀ b, b < m → s'.2.2.1 54 b = s.2.2.1 54 b ∧ s'.2.2.1 55 b = s.2.2.1 55 b) : bl s' m t = bl s m t := by
  unfold bl
  refine List.filter_congr (fun b hb => ?_)
  have := List.mem_range.mp hb
  rw [(he b this).1, (he b this).2]
theorem uns_c {m : Nat} (he : ∀ b, b < m → s'.2.2.1 55 b = s.2.2.1 55 b) : uns s' m = uns s m := by
  unfold uns
  congr 1
  refine List.filter_congr (fun b hb => ?_)
  rw [he b (List.mem_range.mp hb)]
theorem bl_bat {m t' : Nat} (ht : t < 8) (ht' : t' < 8) : bl (batS s m t v0 v1 v2 v3 v4 v5 v6) (m + 1) t' = bl s m t' ++ (if t' = t then [m] else []) := by
  have hc : bl (batS s m t v0 v1 v2 v3 v4 v5 v6) m t' = bl s m t' := bl_c (fun b hb => by rw [batS_54, batS_55, pk_un (by omega), pk_un (by omega)]; exact ⟨rfl, rfl⟩)
  rw [← hc]
  unfold bl
  rw [List.range_succ, List.filter_append]
  congr 1
  rw [batS_54, batS_55]
  by_cases z : t' = t
  · subst z
    rw [if_pos rfl, List.filter_cons_of_pos (by simp [pk_us]), List.filter_nil]
  · rw [if_neg z, List.filter_cons_of_neg (by rw [pk_us, pk_us]; simp; intro e; exact z ((nI_eq (by omega) (by omega)).mp e).symm), List.filter_nil]
theorem uns_bat {m : Nat} : uns (batS s m t v0 v1 v2 v3 v4 v5 v6) (m + 1) = uns s m + 1 := by
  have hc : uns (batS s m t v0 v1 v2 v3 v4 v5 v6) m = uns s m := uns_c (fun b hb => by rw [batS_55, pk_un (by omega)])
  rw [← hc]
  unfold uns
  rw [List.range_succ, List.filter_append, List.length_append, batS_55, List.filter_cons_of_pos (by simp [pk_us]), List.filter_nil]
  rfl
theorem AL.e {l d m c : Nat} {el el' : Nat → Nat} (a : AL E h l d m c el) (he : ∀ i, i < m → el i = el' i) : AL E h l d m c el' := by
  obtain ⟨md, h1, h2, h3⟩ := a
  refine ⟨md, h1, h2, ?_⟩
  rcases h3 with h3 | ⟨h3, f, h4, h5, h6⟩
  · exact Or.inl h3
  · exact Or.inr ⟨h3, f, h4, fun i hi => by rw [← he i hi]; exact h5 i hi, h6⟩
theorem RXa.growB (R : RXo E A h y s n cp) {d cc m : Nat} (ht : t < n 1) (hg : ∀ a, a ∈ h.1 → a ∈ h'.1) (hd : (m < cp (20 + t) ∧ d = y 8 t ∧ cc = cp (20 + t)) ∨ (m = cp (20 + t) ∧ d ∉ h.1 ∧ cc = al_cap (cp (20 + t)))) : RXa A h' (up2 y 8 t d) n (va_up cp (20 + t) cc) := by
  have Ra := R.1
  have e8 : ∀ k j, ¬ (k = 8 ∧ j = t) → up2 y 8 t d k j = y k j := by
    intro k j z
    show va_up y 8 (va_up (y 8) t d) k j = _
    by_cases w : k = 8
    · subst w
      rw [va_up_self, va_up_ne _ _ (by omega)]
    · rw [va_up_ne _ _ w]
  have l8 : ∀ k j, ¬ (k = 8 ∧ j = t) → lyv n (va_up cp (20 + t) cc) k j → lyv n cp k j := by
    intro k j z hl
    rcases hl with q | q | q | q | q | ⟨q1, q2, q3, q4⟩ | ⟨q1, q2, q3⟩
    · exact Or.inl q
    · exact Or.inr (Or.inl q)
    · exact Or.inr (Or.inr (Or.inl q))
    · exact Or.inr (Or.inr (Or.inr (Or.inl q)))
    · exact Or.inr (Or.inr (Or.inr (Or.inr (Or.inl q))))
    · exact Or.inr (Or.inr (Or.inr (Or.inr (Or.inr (Or.inl ⟨q1, q2, q3, by rw [va_up_ne _ _ (by omega)] at q4; exact q4⟩)))))
    · exact Or.inr (Or.inr (Or.inr (Or.inr (Or.inr (Or.inr ⟨q1, q2, by rw [va_up_ne _ _ (by omega)] at q3; exact q3⟩)))))
  refine RXa.ext (n' := n) (cp' := va_up cp (20 + t) cc) R hg (fun k j hl => ?_) (fun k j k' j' hl hl' p1 p2 e => ?_) Ra.2.2.2.1 Ra.2.2.2.2.1 Ra.2.2.2.2.2.1 Ra.2.2.2.2.2.2.1 Ra.2.2.2.2.2.2.2.1 Ra.2.2.2.2.2.2.2.2
  · by_cases z : k = 8 ∧ j = t
    · obtain ⟨rfl, rfl⟩ := z
      show _ ∨ va_up (y 8) j d j ∉ h.1
      rcases hd with ⟨w1, w2, w3⟩ | ⟨w1, w2, w3⟩
      · refine Or.inl ⟨ly8 ht (by omega), ?_⟩
        show va_up (y 8) j d j = _
        rw [va_up_self, w2]
      · refine Or.inr ?_
        rw [va_up_self]; exact w2
    · exact Or.inl ⟨l8 k j z hl, e8 k j z⟩
  · have key : ∀ {k j}, lyv n (va_up cp (20 + t) cc) k j → up2 y 8 t d k j ∉ h.1 → k = 8 ∧ j = t := by
      intro k j hl hni
      by_cases z : k = 8 ∧ j = t
      · exact z
      · exfalso
        rw [e8 k j z] at hni
        exact hni (R.lyin (l8 k j z hl))
    obtain ⟨rfl, rfl⟩ := key hl p1
    obtain ⟨rfl, rfl⟩ := key hl' p2
    exact ⟨rfl, rfl⟩
theorem alB.no (R : RXo E A h y s n cp) {k j : Nat} (ht : t < n 1) (hl : lyv n cp k j) (h1 : ¬ (k = 7 ∧ j = t)) (h2 : ¬ (k = 8 ∧ j = t)) : ¬ alS (y 7 t) (y 8 t) (cp (20 + t)) (y k j) := by
  rintro (e | ⟨e, e2⟩)
  · exact R.1.ne hl (ly7 ht) (by omega) e
  · exact R.1.ne hl (ly8 ht e2) (by omega) e
theorem alB.pay (R : RXo E A h y s n cp) (ht : t < n 1) : ∀ a fs, xh_at h a (.inr (6, fs)) → ¬ alS (y 7 t) (y 8 t) (cp (20 + t)) a := by
  intro a fs hp
  have no : ∀ {k j}, lyv n cp k j → a ≠ y k j := fun hl e => by
    obtain ⟨e1, q1, q2⟩ := R.ly hl
    rw [e] at hp
    exact q2 fs (q1.2.symm.trans hp.2)
  rintro (e | ⟨e, e2⟩)
  · exact no (ly7 ht) e
  · exact no (ly8 ht e2) e
theorem RXo.appB (R : RXo E A h y s n cp) (ht : t < n 1) (g : xg (alS (y 7 t) (y 8 t) (cp (20 + t))) h h') :
    RXf E h' y s n ∧ (∀ j m el, 12 ≤ j → j ≤ 18 → AL E h (y 0 j) (y 15 j) m (cp j) el → AL E h' (y 0 j) (y 15 j) m (cp j) el) ∧ (∀ t', t' < n 1 → t' ≠ t → ∀ m el, AL E h (y 7 t') (y 8 t') m (cp (20 + t')) el → AL E h' (y 7 t') (y 8 t') m (cp (20 + t')) el) ∧ RXm E h' y s n ∧ RXc h' y s n ∧ RXt h' y s n ∧ RXs E h' y s n ∧ RXp h' y s n ∧ xg A h h' ∧ ∀ a, xo_at h a → xo_at h' a := by
  obtain ⟨Ra, Rn, Rf, Rl, Rm, Rc, Rt, Rs, Rp⟩ := id R
  have hP := alB.pay R ht
  have ho : ∀ a, xo_at h a → xo_at h' a := by
    intro a ⟨ci, fs, q1, q2⟩
    refine ⟨ci, fs, q1, g.at q2 ?_⟩
    obtain ⟨md, a1, a2, a3⟩ := Rl.2.2.2.2.2.2.2.1 t ht
    rintro (rfl | ⟨rfl, e2⟩)
    · have := q2.2.symm.trans a1.2
      injection this with z; injection z with z; omega
    · rcases a3 with ⟨z, _⟩ | ⟨_, f, a4, _⟩
      · exact e2 z
      · have := q2.2.symm.trans a4.2
        cases this
  refine ⟨Rf.g g (fun j hj => alB.no R ht (ly0 hj) (by omega) (by omega)), fun j m el q1 q2 q4 => q4.g2 g ho (alB.no R ht (ly0 q2) (by omega) (by omega)) (fun hc => alB.no R ht (ly15 q1 q2 hc) (by omega) (by omega)), fun t' ht' hn m el q4 => q4.g2 g ho (alB.no R ht (ly7 ht') (by omega) (by omega)) (fun hc => alB.no R ht (ly8 ht' hc) (by omega) (by omega)), Rm.g g (fun k hk => alB.no R ht (ly1 hk) (by omega) (by omega)) (fun k hk => alB.no R ht (ly2 hk) (by omega) (by omega)), Rc.g g (fun k hk => alB.no R ht (ly3 hk) (by omega) (by omega)) (fun k hk => alB.no R ht (ly9 hk) (by omega) (by omega)) hP, Rt.g g (fun k hk => alB.no R ht (ly5 hk) (by omega) (by omega)) hP, Rs.g g (fun k hk => alB.no R ht (ly10 hk) (by omega) (by omega)) (fun k hk => alB.no R ht (ly11 hk) (by omega) (by omega)), Rp.g g hP, g.mono (fun x _ z => ?_), ho⟩
  rcases z with rfl | ⟨rfl, e2⟩
  · exact Ra.2.1 _ _ (ly7 ht)
  · exact Ra.2.1 _ _ (ly8 ht e2)
theorem RXo.bat (R : RXo E A h y s n cp) {d cc : Nat} {c k w a : Int32} {am un sl : Int64} (ht : t < n 1) (h41 : s.2.2.1 41 t = 0) (hq : n 7 < 512) (hp : PAY h (y 6 t) c k am un (nI t) w a sl) (g2 : xg (alS (y 7 t) (y 8 t) (cp (20 + t))) h h') (al : AL E h' (y 7 t) d ((bl s (n 7) t).length + 1) cc (va_up (fun j => y 16 ((bl s (n 7) t).getD j 0)) (bl s (n 7) t).length (y 6 t))) (hd : ((bl s (n 7) t).length < cp (20 + t) ∧ d = y 8 t ∧ cc = cp (20 + t)) ∨ ((bl s (n 7) t).length = cp (20 + t) ∧ d ∉ h.1 ∧ cc = al_cap (cp (20 + t)))) :
    RXo E A h' (up2 (up2 y 16 (n 7) (y 6 t)) 8 t d) (batS s (n 7) t c.toInt64 k.toInt64 am un (nI t).toInt64 w.toInt64 sl) (va_up n 7 (n 7 + 1)) (va_up cp (20 + t) cc) ∧ xg A h h' := by
  obtain ⟨Ra, Rn, Rf, Rl, Rm, Rc, Rt, Rs, Rp⟩ := id R
  have hn1 := Rn.2.1.2
  obtain ⟨Pf, Pl, Pb, Pm, Pc, Pt, Ps, Pp, PA, Po⟩ := R.appB ht g2
  have hp' : PAY h' (y 6 t) c k am un (nI t) w a sl := g2.at hp (alB.pay R ht _ _ hp)
  have eK : ∀ j, up2 (up2 y 16 (n 7) (y 6 t)) 8 t d 16 j = va_up (y 16) (n 7) (y 6 t) j := fun _ => rfl
  have bln : (bl s (n 7) t).length ≤ 512 := by
    unfold bl
    have := List.length_filter_le (fun b => decide (s.2.2.1 54 b = nI t ∧ s.2.2.1 55 b = 0)) (List.range (n 7))
    rw [List.length_range] at this
    omega
  refine ⟨⟨?_, ?_, ?_, ?_, ?_, ?_, ?_, ?_, ?_⟩, PA⟩
  · refine (RXa.growB R (m := (bl s (n 7) t).length) ht g2.1 hd).py (fun a z => z) (fun k j a1 a2 a3 a4 a5 a6 => ?_) (fun _ _ z => z) Ra.2.2.2.1 Ra.2.2.2.2.1 Ra.2.2.2.2.2.1 Ra.2.2.2.2.2.2.1 Ra.2.2.2.2.2.2.2.1 ?_
    · show va_up (va_up y 16 _) 8 (va_up (y 8) t d) k j = va_up y 8 (va_up (y 8) t d) k j
      by_cases w8 : k = 8
      · subst w8; rw [va_up_self, va_up_self]
      · rw [va_up_ne _ _ w8, va_up_ne _ _ w8, va_up_ne _ _ a6]
    · intro j hj
      show A (va_up (y 16) (n 7) (y 6 t) j)
      by_cases z : j = n 7
      · subst z; rw [va_up_self]; exact Ra.2.2.2.2.1 t ht
      · rw [va_up_ne _ _ z]; exact Ra.2.2.2.2.2.2.2.2 j (by have : j < n 7 + 1 := hj; omega)
  · obtain ⟨r0, r1, r2, r3, r4, r5, r6, r7, r8, r9, r10⟩ := Rn
    refine ⟨r0, r1, r2, r3, r4, r5, r6, rfl, r8, ⟨r9.1, r9.2.1, r9.2.2.1, r9.2.2.2.1, ?_⟩, fun j => ?_⟩
    · show n 7 + 1 ≤ 512; omega
    · by_cases z : j = 20 + t
      · subst z
        rw [va_up_self]
        rcases hd with ⟨w1, w2, w3⟩ | ⟨w1, w2, w3⟩
        · rw [w3]; exact r10 _
        · rw [w3, ← w1]; unfold al_cap; split <;> omega
      · rw [va_up_ne _ _ z]; exact r10 j
  · exact Pf
  · obtain ⟨l0, l1, l2, l3, l4, l5, l6, l7⟩ := Rl
    have cO : ∀ j, j ≤ 18 → va_up cp (20 + t) cc j = cp j := fun j hj => va_up_ne _ _ (by omega)
    refine ⟨?_, ?_, ?_, ?_, ?_, ?_, ?_, fun t' ht' => ?_, fun t' ht' => (va_up_ne _ _ (by have : n 1 ≤ t' := ht'; omega)).trans (l7.2 t' ht')⟩
    · rw [cO 12 (by omega)]; exact Pl 12 _ _ (by omega) (by omega) l0
    · rw [cO 13 (by omega)]; exact Pl 13 _ _ (by omega) (by omega) l1
    · rw [cO 14 (by omega)]; exact Pl 14 _ _ (by omega) (by omega) l2
    · rw [cO 15 (by omega)]; exact Pl 15 _ _ (by omega) (by omega) l3
    · rw [cO 16 (by omega)]; exact Pl 16 _ _ (by omega) (by omega) l4
    · rw [cO 17 (by omega)]; exact Pl 17 _ _ (by omega) (by omega) l5
    · rw [cO 18 (by omega)]; exact Pl 18 _ _ (by omega) (by omega) l6
    show AL E h' (y 7 t') (va_up (y 8) t d t') (bl (batS s (n 7) t c.toInt64 k.toInt64 am un (nI t).toInt64 w.toInt64 sl) (n 7 + 1) t').length (va_up cp (20 + t) cc (20 + t')) (fun j => va_up (y 16) (n 7) (y 6 t) ((bl (batS s (n 7) t c.toInt64 k.toInt64 am un (nI t).toInt64 w.toInt64 sl) (n 7 + 1) t').getD j 0))
    rw [bl_bat (by omega) (by have : t' < n 1 := ht'; omega)]
    by_cases z : t' = t
    · subst z
      rw [va_up_self, va_up_self, if_pos rfl, List.length_append, List.length_singleton]
      refine al.e (fun j hj => ?_)
      by_cases zj : j = (bl s (n 7) t').length
      · subst zj
        rw [va_up_self, List.getD_eq_getElem?_getD, List.getElem?_append_right (Nat.le_refl _)]
        simp [va_up_self]
      · have hj' : j < (bl s (n 7) t').length := by omega
        have ea : (bl s (n 7) t' ++ [n 7]).getD j 0 = (bl s (n 7) t').getD j 0 := by
          rw [List.getD_eq_getElem?_getD, List.getElem?_append_left hj', ← List.getD_eq_getElem?_getD]
        rw [va_up_ne _ _ zj, ea, va_up_ne _ _ (by have := bl_lt hj'; omega)]
    · rw [va_up_ne _ _ z, va_up_ne _ _ (by omega), if_neg z, List.append_nil]
      refine (Pb t' ht' z _ _ (l7.1 t' ht')).e (fun j hj => ?_)
      rw [va_up_ne _ _ (by have := bl_lt hj; omega)]
  · exact Pm
  · exact Pc
  · exact Pt
  · exact Ps
  · obtain ⟨p1, p2, p3, p4, p5⟩ := Pp
    refine ⟨p1, p2, p3, fun j hj hz => ?_, fun t1 ht1 hw => ?_⟩
    · have hj' : j < n 7 + 1 := hj
      rw [batS_55] at hz
      by_cases z : j = n 7
      · subst z
        rw [eK, va_up_self, batS_56, batS_54, pk_us]
        obtain ⟨o1, o2, o3, o4, o5, o6, o7⟩ := up7_n (s.2.2.2 56) (n 7) c.toInt64 k.toInt64 am un (nI t).toInt64 w.toInt64 sl
        exact ⟨c, k, am, un, nI t, w, a, sl, hp', o1, o2, o3, o4, o5, o6, o7, rfl⟩
      · rw [pk_un z] at hz
        rw [eK, va_up_ne _ _ z, batS_56, batS_54, pk_un z]
        rw [up7_o (a := 7 * j) (by omega), up7_o (a := 7 * j + 1) (by omega), up7_o (a := 7 * j + 2) (by omega), up7_o (a := 7 * j + 3) (by omega), up7_o (a := 7 * j + 4) (by omega), up7_o (a := 7 * j + 5) (by omega), up7_o (a := 7 * j + 6) (by omega)]
        exact p4 j (by omega) hz
    · obtain ⟨q1, q2, q3, q4, q5⟩ := p5 t1 ht1 hw
      refine ⟨q1, q2, q3, q4, fun j hj hz => ?_⟩
      rw [batS_55] at hz
      rw [eK]
      show _ ≠ y 6 t1
      by_cases z : j = n 7
      · subst z
        rw [va_up_self]
        refine q1 t ht (fun e => hw ?_)
        rw [← e]; exact h41
      · rw [va_up_ne _ _ z]
        rw [pk_un z] at hz
        exact q5 j (by have : j < n 7 + 1 := hj; omega) hz
theorem W2.bat (w : W2 i u s n) (ht : t < n 1) : W2 (i + 1) (u + 1) (batS s (n 7) t v0 v1 v2 v3 v4 v5 v6) (va_up n 7 (n 7 + 1)) := by
  obtain ⟨⟨c0, c1, c2, c3, c4, c5, c6, c7, c8⟩, wb, wg, wz, wa, wt, wp, wd, wf⟩ := w
  refine ⟨⟨c0, c1, c2, ⟨c3.1, ?_⟩, ⟨c4.1, ?_⟩, ⟨c5.1, ?_⟩, ⟨c6.1, ?_⟩, ⟨rfl, ?_⟩, c8⟩, wb, wg, wz, wa, wt, wp, wd, wf.1, fun t' h1 h2 => ?_⟩
  · show n 3 ≤ i + 1; omega
  · show n 4 + uns (batS s (n 7) t v0 v1 v2 v3 v4 v5 v6) (n 7 + 1) ≤ u + 1
    rw [uns_bat]; omega
  · show n 5 ≤ i + 1; omega
  · show n 6 ≤ i + 1; omega
  · show n 7 + 1 ≤ i + 1; omega
  · obtain ⟨b1, b2, b3, b4, b5, b6, b7⟩ := wf.2 t' h1 h2
    refine ⟨b1, b2, b3, b4, b5, b6, ?_⟩
    show bl (batS s (n 7) t v0 v1 v2 v3 v4 v5 v6) (n 7 + 1) t' = []
    have h1' : n 1 ≤ t' := h1
    rw [bl_bat (by omega) h2, b7, if_neg (by omega)]
    rfl
theorem cpS_upB {z : Nat} (ht : t < 8) : cpS (va_up cp (20 + t) z) + cp (20 + t) = cpS cp + z := by
  unfold cpS
  match t, ht with
  | 0, _ => show cp 12 + cp 13 + cp 14 + cp 15 + cp 16 + cp 17 + cp 18 + z + cp 21 + cp 22 + cp 23 + cp 24 + cp 25 + cp 26 + cp 27 + cp 20 = _; omega
  | 1, _ => show cp 12 + cp 13 + cp 14 + cp 15 + cp 16 + cp 17 + cp 18 + cp 20 + z + cp 22 + cp 23 + cp 24 + cp 25 + cp 26 + cp 27 + cp 21 = _; omega
  | 2, _ => show cp 12 + cp 13 + cp 14 + cp 15 + cp 16 + cp 17 + cp 18 + cp 20 + cp 21 + z + cp 23 + cp 24 + cp 25 + cp 26 + cp 27 + cp 22 = _; omega
  | 3, _ => show cp 12 + cp 13 + cp 14 + cp 15 + cp 16 + cp 17 + cp 18 + cp 20 + cp 21 + cp 22 + z + cp 24 + cp 25 + cp 26 + cp 27 + cp 23 = _; omega
  | 4, _ => show cp 12 + cp 13 + cp 14 + cp 15 + cp 16 + cp 17 + cp 18 + cp 20 + cp 21 + cp 22 + cp 23 + z + cp 25 + cp 26 + cp 27 + cp 24 = _; omega
  | 5, _ => show cp 12 + cp 13 + cp 14 + cp 15 + cp 16 + cp 17 + cp 18 + cp 20 + cp 21 + cp 22 + cp 23 + cp 24 + z + cp 26 + cp 27 + cp 25 = _; omega
  | 6, _ => show cp 12 + cp 13 + cp 14 + cp 15 + cp 16 + cp 17 + cp 18 + cp 20 + cp 21 + cp 22 + cp 23 + cp 24 + cp 25 + z + cp 27 + cp 26 = _; omega
  | 7, _ => show cp 12 + cp 13 + cp 14 + cp 15 + cp 16 + cp 17 + cp 18 + cp 20 + cp 21 + cp 22 + cp 23 + cp 24 + cp 25 + cp 26 + z + cp 27 = _; omega
theorem grow_FB {m : Nat} (ht : t < 8) (hc : ∀ j, cp j ≤ 8192) (hm : m ≤ 2048) (h10 : cp (20 + t) = 0 ∨ 10 ≤ cp (20 + t)) : (if m = cp (20 + t) then al_cap (cp (20 + t)) else 0) + Fs n (va_up cp (20 + t) (alC m (cp (20 + t)))) ≤ Fs n cp ∧ (∀ j, va_up cp (20 + t) (alC m (cp (20 + t))) j ≤ 8192) := by
  have a := cpS_upB (cp := cp) (z := alC m (cp (20 + t))) ht
  have hcS := cpS_le hc
  have h8 : ∀ j, va_up cp (20 + t) (alC m (cp (20 + t))) j ≤ 8192 := by
    intro j
    by_cases e : j = 20 + t
    · subst e
      rw [va_up_self]
      unfold alC al_cap
      have := hc (20 + t)
      split
      · split <;> omega
      · omega
    · rw [va_up_ne _ _ e]; exact hc j
  have hcS' := cpS_le h8
  refine ⟨?_, h8⟩
  unfold Fs
  unfold alC al_cap at *
  by_cases z : m = cp (20 + t)
  · simp only [if_pos z] at *
    by_cases z0 : cp (20 + t) = 0
    · simp only [if_pos z0] at *
      omega
    · simp only [if_neg z0] at *
      omega
  · simp only [if_neg z] at *
    omega
end BATCH
