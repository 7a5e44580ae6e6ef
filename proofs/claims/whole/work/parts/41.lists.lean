/-! a payment more in a list -/
def up7 (f : Nat → Int64) (m : Nat) (v0 v1 v2 v3 v4 v5 v6 : Int64) : Nat → Int64 := vp_updL (vp_updL (vp_updL (vp_updL (vp_updL (vp_updL (vp_updL f (7 * m) v0) (7 * m + 1) v1) (7 * m + 2) v2) (7 * m + 3) v3) (7 * m + 4) v4) (7 * m + 5) v5) (7 * m + 6) v6
def up3 (f : Nat → Int64) (m : Nat) (v0 v1 v2 : Int64) : Nat → Int64 := vp_updL (vp_updL (vp_updL f (3 * m) v0) (3 * m + 1) v1) (3 * m + 2) v2
theorem up7_o {f : Nat → Int64} {m a : Nat} {v0 v1 v2 v3 v4 v5 v6 : Int64} (h : a < 7 * m) : up7 f m v0 v1 v2 v3 v4 v5 v6 a = f a := by
  unfold up7
  rw [pk_uLn (by omega), pk_uLn (by omega), pk_uLn (by omega), pk_uLn (by omega), pk_uLn (by omega), pk_uLn (by omega), pk_uLn (by omega)]
theorem up3_o {f : Nat → Int64} {m a : Nat} {v0 v1 v2 : Int64} (h : a < 3 * m) : up3 f m v0 v1 v2 a = f a := by
  unfold up3
  rw [pk_uLn (by omega), pk_uLn (by omega), pk_uLn (by omega)]
theorem up7_n (f : Nat → Int64) (m : Nat) (v0 v1 v2 v3 v4 v5 v6 : Int64) : up7 f m v0 v1 v2 v3 v4 v5 v6 (7 * m) = v0 ∧ up7 f m v0 v1 v2 v3 v4 v5 v6 (7 * m + 1) = v1 ∧ up7 f m v0 v1 v2 v3 v4 v5 v6 (7 * m + 2) = v2 ∧ up7 f m v0 v1 v2 v3 v4 v5 v6 (7 * m + 3) = v3 ∧ up7 f m v0 v1 v2 v3 v4 v5 v6 (7 * m + 4) = v4 ∧ up7 f m v0 v1 v2 v3 v4 v5 v6 (7 * m + 5) = v5 ∧ up7 f m v0 v1 v2 v3 v4 v5 v6 (7 * m + 6) = v6 := by
  unfold up7
  refine ⟨?_, ?_, ?_, ?_, ?_, ?_, ?_⟩
  · rw [pk_uLn (by omega), pk_uLn (by omega), pk_uLn (by omega), pk_uLn (by omega), pk_uLn (by omega), pk_uLn (by omega), pk_uLs]
  · rw [pk_uLn (by omega), pk_uLn (by omega), pk_uLn (by omega), pk_uLn (by omega), pk_uLn (by omega), pk_uLs]
  · rw [pk_uLn (by omega), pk_uLn (by omega), pk_uLn (by omega), pk_uLn (by omega), pk_uLs]
  · rw [pk_uLn (by omega), pk_uLn (by omega), pk_uLn (by omega), pk_uLs]
  · rw [pk_uLn (by omega), pk_uLn (by omega), pk_uLs]
  · rw [pk_uLn (by omega), pk_uLs]
  · rw [pk_uLs]
theorem up3_n (f : Nat → Int64) (m : Nat) (v0 v1 v2 : Int64) : up3 f m v0 v1 v2 (3 * m) = v0 ∧ up3 f m v0 v1 v2 (3 * m + 1) = v1 ∧ up3 f m v0 v1 v2 (3 * m + 2) = v2 := by
  unfold up3
  refine ⟨?_, ?_, ?_⟩
  · rw [pk_uLn (by omega), pk_uLn (by omega), pk_uLs]
  · rw [pk_uLn (by omega), pk_uLs]
  · rw [pk_uLs]
section LISTS
variable {E : Ev} {A : Nat → Prop} {h h' : Hp} {y : Nat → Nat → Nat} {s s' : MS} {n cp : Nat → Nat}
theorem RXa.grow (R : RXo E A h y s n cp) {j0 d cc m : Nat} (h12 : 12 ≤ j0) (h18 : j0 ≤ 18) (hg : ∀ a, a ∈ h.1 → a ∈ h'.1) (hd : (m < cp j0 ∧ d = y 15 j0 ∧ cc = cp j0) ∨ (m = cp j0 ∧ d ∉ h.1 ∧ cc = al_cap (cp j0))) : RXa A h' (up2 y 15 j0 d) n (va_up cp j0 cc) := by
  have Ra := R.1
  refine RXa.ext (n' := n) (cp' := va_up cp j0 cc) R hg (fun k j hl => ?_) (fun k j k' j' hl hl' p1 p2 e => ?_) Ra.2.2.2.1 Ra.2.2.2.2.1 Ra.2.2.2.2.2.1 Ra.2.2.2.2.2.2.1 Ra.2.2.2.2.2.2.2.1 Ra.2.2.2.2.2.2.2.2
  · by_cases z : k = 15 ∧ j = j0
    · obtain ⟨rfl, rfl⟩ := z
      show _ ∨ va_up (y 15) j d j ∉ h.1
      rcases hd with ⟨w1, w2, w3⟩ | ⟨w1, w2, w3⟩
      · refine Or.inl ⟨ly15 h12 h18 (by omega), ?_⟩
        show va_up (y 15) j d j = _
        rw [va_up_self, w2]
      · refine Or.inr ?_
        rw [va_up_self]; exact w2
    · refine Or.inl ⟨?_, ?_⟩
      · rcases hl with q | q | q | q | q | ⟨q1, q2, q3, q4⟩ | ⟨q1, q2, q3⟩
        · exact Or.inl q
        · exact Or.inr (Or.inl q)
        · exact Or.inr (Or.inr (Or.inl q))
        · exact Or.inr (Or.inr (Or.inr (Or.inl q)))
        · exact Or.inr (Or.inr (Or.inr (Or.inr (Or.inl q))))
        · exact Or.inr (Or.inr (Or.inr (Or.inr (Or.inr (Or.inl ⟨q1, q2, q3, by rw [va_up_ne _ _ (by omega)] at q4; exact q4⟩)))))
        · exact Or.inr (Or.inr (Or.inr (Or.inr (Or.inr (Or.inr ⟨q1, q2, by rw [va_up_ne _ _ (by omega)] at q3; exact q3⟩)))))
      · show va_up y 15 (va_up (y 15) j0 d) k j = _
        by_cases w : k = 15
        · subst w
          rw [va_up_self, va_up_ne _ _ (by omega)]
        · rw [va_up_ne _ _ w]
  · have key : ∀ {k j}, lyv n (va_up cp j0 cc) k j → up2 y 15 j0 d k j ∉ h.1 → k = 15 ∧ j = j0 := by
      intro k j hl hni
      by_cases z : k = 15 ∧ j = j0
      · exact z
      · exfalso
        have e1 : up2 y 15 j0 d k j = y k j := by
          show va_up y 15 (va_up (y 15) j0 d) k j = _
          by_cases w : k = 15
          · subst w
            rw [va_up_self, va_up_ne _ _ (by omega)]
          · rw [va_up_ne _ _ w]
        rw [e1] at hni
        refine hni (R.lyin ?_)
        rcases hl with q | q | q | q | q | ⟨q1, q2, q3, q4⟩ | ⟨q1, q2, q3⟩
        · exact Or.inl q
        · exact Or.inr (Or.inl q)
        · exact Or.inr (Or.inr (Or.inl q))
        · exact Or.inr (Or.inr (Or.inr (Or.inl q)))
        · exact Or.inr (Or.inr (Or.inr (Or.inr (Or.inl q))))
        · exact Or.inr (Or.inr (Or.inr (Or.inr (Or.inr (Or.inl ⟨q1, q2, q3, by rw [va_up_ne _ _ (by omega)] at q4; exact q4⟩)))))
        · exact Or.inr (Or.inr (Or.inr (Or.inr (Or.inr (Or.inr ⟨q1, q2, by rw [va_up_ne _ _ (by omega)] at q3; exact q3⟩)))))
    obtain ⟨rfl, rfl⟩ := key hl p1
    obtain ⟨rfl, rfl⟩ := key hl' p2
    exact ⟨rfl, rfl⟩
theorem alS.ys {j0 : Nat} (hj : 12 ≤ j0) (hj2 : j0 ≤ 18) (g : xg (alS (y 0 j0) (y 15 j0) (cp j0)) h h') : xg (YS y n cp (fun k j => (k = 0 ∨ k = 15) ∧ j = j0)) h h' := g.mono (fun x _ z => by
  rcases z with rfl | ⟨rfl, e2⟩
  · exact ⟨0, j0, ly0 hj2, ⟨Or.inl rfl, rfl⟩, rfl⟩
  · exact ⟨15, j0, ly15 hj hj2 e2, ⟨Or.inr rfl, rfl⟩, rfl⟩)
def purS (s : MS) (n : Nat → Nat) (c k : Int32) (am un : Int64) (t w a : Int32) : MS := mI (mL (mL (mL s 58 (3 * n 5) t.toInt64) 58 (3 * n 5 + 1) am) 58 (3 * n 5 + 2) un) 57 (nI (n 5 + 1))
theorem RXo.pur (R : RXo E A h y s n cp) {p d cc : Nat} {c k t w a : Int32} {am un sl : Int64} (hq : n 5 < 512) (hp : PAY h p c k am un t w a sl) (hA : A p) (g2 : xg (alS (y 0 14) (y 15 14) (cp 14)) h h') (al : AL E h' (y 0 14) d (n 5 + 1) cc (va_up (y 12) (n 5) p)) (hd : (n 5 < cp 14 ∧ d = y 15 14 ∧ cc = cp 14) ∨ (n 5 = cp 14 ∧ d ∉ h.1 ∧ cc = al_cap (cp 14))) :
    RXo E A h' (up2 (up2 y 12 (n 5) p) 15 14 d) (purS s n c k am un t w a) (va_up n 5 (n 5 + 1)) (va_up cp 14 cc) ∧ xg A h h' := by
  obtain ⟨Ra, Rn, Rf, Rl, Rm, Rc, Rt, Rs, Rp⟩ := id R
  obtain ⟨Pf, Pl, Pb, Pm, Pc, Pt, Ps, Pp, PA, Po⟩ := R.app (j0 := 14) (by omega) (by omega) g2
  have hp' : PAY h' p c k am un t w a sl := g2.at hp (alS.pay R (by omega) (by omega) _ _ hp)
  have eK : ∀ j, up2 (up2 y 12 (n 5) p) 15 14 d 12 j = va_up (y 12) (n 5) p j := fun _ => rfl
  have vS : (purS s n c k am un t w a).2.2.2 58 = up3 (s.2.2.2 58) (n 5) t.toInt64 am un := by
    unfold purS up3 mL mI
    simp only [va_up2, va_up_self]
  refine ⟨⟨?_, ?_, ?_, ?_, ?_, ?_, ?_, ?_, ?_⟩, PA⟩
  · refine (RXa.grow R (m := n 5) (by omega) (by omega) g2.1 hd).py (fun a z => z) (fun k j a1 a2 a3 a4 a5 a6 => ?_) (fun _ _ z => z) Ra.2.2.2.1 Ra.2.2.2.2.1 ?_ Ra.2.2.2.2.2.2.1 Ra.2.2.2.2.2.2.2.1 Ra.2.2.2.2.2.2.2.2
    · show va_up (va_up y 12 _) 15 (va_up (y 15) 14 d) k j = va_up y 15 (va_up (y 15) 14 d) k j
      by_cases w15 : k = 15
      · subst w15; rw [va_up_self, va_up_self]
      · rw [va_up_ne _ _ w15, va_up_ne _ _ w15, va_up_ne _ _ a3]
    · intro j hj
      show A (va_up (y 12) (n 5) p j)
      by_cases z : j = n 5
      · subst z; rw [va_up_self]; exact hA
      · rw [va_up_ne _ _ z]; exact Ra.2.2.2.2.2.1 j (by have : j < n 5 + 1 := hj; omega)
  · obtain ⟨r0, r1, r2, r3, r4, r5, r6, r7, r8, r9, r10⟩ := Rn
    refine ⟨r0, r1, r2, r3, r4, rfl, r6, r7, r8, ⟨r9.1, r9.2.1, ?_, r9.2.2.2.1, r9.2.2.2.2⟩, fun j => ?_⟩
    · show n 5 + 1 ≤ 512; omega
    · by_cases z : j = 14
      · subst z
        rw [va_up_self]
        rcases hd with ⟨w1, w2, w3⟩ | ⟨w1, w2, w3⟩
        · rw [w3]; exact r10 14
        · rw [w3]; unfold al_cap; split <;> omega
      · rw [va_up_ne _ _ z]; exact r10 j
  · exact Pf
  · obtain ⟨l0, l1, l2, l3, l4, l5, l6, l7⟩ := Rl
    refine ⟨Pl 12 _ _ (by omega) (by omega) (by omega) l0, Pl 13 _ _ (by omega) (by omega) (by omega) l1, al, Pl 15 _ _ (by omega) (by omega) (by omega) l3, Pl 16 _ _ (by omega) (by omega) (by omega) l4, Pl 17 _ _ (by omega) (by omega) (by omega) l5, Pl 18 _ _ (by omega) (by omega) (by omega) l6, fun t' ht => ?_, fun t' ht => (va_up_ne _ _ (by omega)).trans (l7.2 t' ht)⟩
    have := Pb t' ht _ _ (l7.1 t' ht)
    rw [← show va_up cp 14 cc (20 + t') = cp (20 + t') from va_up_ne _ _ (by omega)] at this
    exact this
  · exact Pm
  · exact Pc
  · exact Pt
  · exact Ps
  · obtain ⟨p1, p2, p3, p4, p5⟩ := Pp
    refine ⟨fun j hj => ?_, p2, p3, p4, p5⟩
    · have hj' : j < n 5 + 1 := hj
      by_cases z : j = n 5
      · subst z
        rw [eK, va_up_self, vS]
        exact ⟨c, k, am, un, t, w, a, sl, hp', up3_n _ _ t.toInt64 am un⟩
      · rw [eK, va_up_ne _ _ z, vS]
        rw [up3_o (a := 3 * j) (by omega), up3_o (a := 3 * j + 1) (by omega), up3_o (a := 3 * j + 2) (by omega)]
        exact p1 j (by omega)
def ansS (s : MS) (n : Nat → Nat) (c k : Int32) (am un : Int64) (t w a : Int32) : MS := mI (mL (mL (mL (mL (mL (mL (mL s 60 (7 * n 6) c.toInt64) 60 (7 * n 6 + 1) k.toInt64) 60 (7 * n 6 + 2) am) 60 (7 * n 6 + 3) un) 60 (7 * n 6 + 4) t.toInt64) 60 (7 * n 6 + 5) w.toInt64) 60 (7 * n 6 + 6) a.toInt64) 59 (nI (n 6 + 1))
theorem RXo.ans (R : RXo E A h y s n cp) {p d cc : Nat} {c k t w a : Int32} {am un sl : Int64} (hq : n 6 < 512) (hp : PAY h p c k am un t w a sl) (hA : A p) (hne : ∀ t', t' < n 1 → ¬ s.2.2.1 41 t' = 0 → p ≠ y 6 t') (g2 : xg (alS (y 0 15) (y 15 15) (cp 15)) h h') (al : AL E h' (y 0 15) d (n 6 + 1) cc (va_up (y 13) (n 6) p)) (hd : (n 6 < cp 15 ∧ d = y 15 15 ∧ cc = cp 15) ∨ (n 6 = cp 15 ∧ d ∉ h.1 ∧ cc = al_cap (cp 15))) :
    RXo E A h' (up2 (up2 y 13 (n 6) p) 15 15 d) (ansS s n c k am un t w a) (va_up n 6 (n 6 + 1)) (va_up cp 15 cc) ∧ xg A h h' := by
  obtain ⟨Ra, Rn, Rf, Rl, Rm, Rc, Rt, Rs, Rp⟩ := id R
  obtain ⟨Pf, Pl, Pb, Pm, Pc, Pt, Ps, Pp, PA, Po⟩ := R.app (j0 := 15) (by omega) (by omega) g2
  have hp' : PAY h' p c k am un t w a sl := g2.at hp (alS.pay R (by omega) (by omega) _ _ hp)
  have eK : ∀ j, up2 (up2 y 13 (n 6) p) 15 15 d 13 j = va_up (y 13) (n 6) p j := fun _ => rfl
  have vS : (ansS s n c k am un t w a).2.2.2 60 = up7 (s.2.2.2 60) (n 6) c.toInt64 k.toInt64 am un t.toInt64 w.toInt64 a.toInt64 := by
    unfold ansS up7 mL mI
    simp only [va_up2, va_up_self]
  refine ⟨⟨?_, ?_, ?_, ?_, ?_, ?_, ?_, ?_, ?_⟩, PA⟩
  · refine (RXa.grow R (m := n 6) (by omega) (by omega) g2.1 hd).py (fun a z => z) (fun k j a1 a2 a3 a4 a5 a6 => ?_) (fun _ _ z => z) Ra.2.2.2.1 Ra.2.2.2.2.1 Ra.2.2.2.2.2.1 ?_ Ra.2.2.2.2.2.2.2.1 Ra.2.2.2.2.2.2.2.2
    · show va_up (va_up y 13 _) 15 (va_up (y 15) 15 d) k j = va_up y 15 (va_up (y 15) 15 d) k j
      by_cases w15 : k = 15
      · subst w15; rw [va_up_self, va_up_self]
      · rw [va_up_ne _ _ w15, va_up_ne _ _ w15, va_up_ne _ _ a4]
    · intro j hj
      show A (va_up (y 13) (n 6) p j)
      by_cases z : j = n 6
      · subst z; rw [va_up_self]; exact hA
      · rw [va_up_ne _ _ z]; exact Ra.2.2.2.2.2.2.1 j (by have : j < n 6 + 1 := hj; omega)
  · obtain ⟨r0, r1, r2, r3, r4, r5, r6, r7, r8, r9, r10⟩ := Rn
    refine ⟨r0, r1, r2, r3, r4, r5, rfl, r7, r8, ⟨r9.1, r9.2.1, r9.2.2.1, ?_, r9.2.2.2.2⟩, fun j => ?_⟩
    · show n 6 + 1 ≤ 512; omega
    · by_cases z : j = 15
      · subst z
        rw [va_up_self]
        rcases hd with ⟨w1, w2, w3⟩ | ⟨w1, w2, w3⟩
        · rw [w3]; exact r10 15
        · rw [w3]; unfold al_cap; split <;> omega
      · rw [va_up_ne _ _ z]; exact r10 j
  · exact Pf
  · obtain ⟨l0, l1, l2, l3, l4, l5, l6, l7⟩ := Rl
    refine ⟨Pl 12 _ _ (by omega) (by omega) (by omega) l0, Pl 13 _ _ (by omega) (by omega) (by omega) l1, Pl 14 _ _ (by omega) (by omega) (by omega) l2, al, Pl 16 _ _ (by omega) (by omega) (by omega) l4, Pl 17 _ _ (by omega) (by omega) (by omega) l5, Pl 18 _ _ (by omega) (by omega) (by omega) l6, fun t' ht => ?_, fun t' ht => (va_up_ne _ _ (by omega)).trans (l7.2 t' ht)⟩
    have := Pb t' ht _ _ (l7.1 t' ht)
    rw [← show va_up cp 15 cc (20 + t') = cp (20 + t') from va_up_ne _ _ (by omega)] at this
    exact this
  · exact Pm
  · exact Pc
  · exact Pt
  · exact Ps
  · obtain ⟨p1, p2, p3, p4, p5⟩ := Pp
    refine ⟨p1, fun j hj => ?_, p3, p4, fun t1 ht hw => ?_⟩
    · have hj' : j < n 6 + 1 := hj
      by_cases z : j = n 6
      · subst z
        rw [eK, va_up_self, vS]
        exact ⟨c, k, am, un, t, w, a, sl, hp', up7_n _ _ c.toInt64 k.toInt64 am un t.toInt64 w.toInt64 a.toInt64⟩
      · rw [eK, va_up_ne _ _ z, vS]
        rw [up7_o (a := 7 * j) (by omega), up7_o (a := 7 * j + 1) (by omega), up7_o (a := 7 * j + 2) (by omega), up7_o (a := 7 * j + 3) (by omega), up7_o (a := 7 * j + 4) (by omega), up7_o (a := 7 * j + 5) (by omega), up7_o (a := 7 * j + 6) (by omega)]
        exact p2 j (by omega)
    · obtain ⟨q1, q2, q3, q4, q5⟩ := p5 t1 ht hw
      refine ⟨q1, q2, fun j hj => ?_, q4, q5⟩
      rw [eK]
      show _ ≠ y 6 t1
      by_cases z : j = n 6
      · subst z; rw [va_up_self]; exact hne t1 ht hw
      · rw [va_up_ne _ _ z]; exact q3 j (by have : j < n 6 + 1 := hj; omega)
def debS (s : MS) (n : Nat → Nat) (c k : Int32) (am un : Int64) (t w a : Int32) : MS := mI (mL (mL (mL (mL (mL (mL (mL s 62 (7 * n 3) c.toInt64) 62 (7 * n 3 + 1) k.toInt64) 62 (7 * n 3 + 2) am) 62 (7 * n 3 + 3) un) 62 (7 * n 3 + 4) t.toInt64) 62 (7 * n 3 + 5) w.toInt64) 62 (7 * n 3 + 6) a.toInt64) 61 (nI (n 3 + 1))
theorem RXo.deb (R : RXo E A h y s n cp) {p d cc : Nat} {c k t w a : Int32} {am un sl : Int64} (hq : n 3 < 512) (hp : PAY h p c k am un t w a sl) (hA : A p) (hne : ∀ t', t' < n 1 → ¬ s.2.2.1 41 t' = 0 → p ≠ y 6 t') (g2 : xg (alS (y 0 18) (y 15 18) (cp 18)) h h') (al : AL E h' (y 0 18) d (n 3 + 1) cc (va_up (y 14) (n 3) p)) (hd : (n 3 < cp 18 ∧ d = y 15 18 ∧ cc = cp 18) ∨ (n 3 = cp 18 ∧ d ∉ h.1 ∧ cc = al_cap (cp 18))) :
    RXo E A h' (up2 (up2 y 14 (n 3) p) 15 18 d) (debS s n c k am un t w a) (va_up n 3 (n 3 + 1)) (va_up cp 18 cc) ∧ xg A h h' := by
  obtain ⟨Ra, Rn, Rf, Rl, Rm, Rc, Rt, Rs, Rp⟩ := id R
  obtain ⟨Pf, Pl, Pb, Pm, Pc, Pt, Ps, Pp, PA, Po⟩ := R.app (j0 := 18) (by omega) (by omega) g2
  have hp' : PAY h' p c k am un t w a sl := g2.at hp (alS.pay R (by omega) (by omega) _ _ hp)
  have eK : ∀ j, up2 (up2 y 14 (n 3) p) 15 18 d 14 j = va_up (y 14) (n 3) p j := fun _ => rfl
  have vS : (debS s n c k am un t w a).2.2.2 62 = up7 (s.2.2.2 62) (n 3) c.toInt64 k.toInt64 am un t.toInt64 w.toInt64 a.toInt64 := by
    unfold debS up7 mL mI
    simp only [va_up2, va_up_self]
  refine ⟨⟨?_, ?_, ?_, ?_, ?_, ?_, ?_, ?_, ?_⟩, PA⟩
  · refine (RXa.grow R (m := n 3) (by omega) (by omega) g2.1 hd).py (fun a z => z) (fun k j a1 a2 a3 a4 a5 a6 => ?_) (fun _ _ z => z) Ra.2.2.2.1 Ra.2.2.2.2.1 Ra.2.2.2.2.2.1 Ra.2.2.2.2.2.2.1 ?_ Ra.2.2.2.2.2.2.2.2
    · show va_up (va_up y 14 _) 15 (va_up (y 15) 18 d) k j = va_up y 15 (va_up (y 15) 18 d) k j
      by_cases w15 : k = 15
      · subst w15; rw [va_up_self, va_up_self]
      · rw [va_up_ne _ _ w15, va_up_ne _ _ w15, va_up_ne _ _ a5]
    · intro j hj
      show A (va_up (y 14) (n 3) p j)
      by_cases z : j = n 3
      · subst z; rw [va_up_self]; exact hA
      · rw [va_up_ne _ _ z]; exact Ra.2.2.2.2.2.2.2.1 j (by have : j < n 3 + 1 := hj; omega)
  · obtain ⟨r0, r1, r2, r3, r4, r5, r6, r7, r8, r9, r10⟩ := Rn
    refine ⟨r0, r1, r2, rfl, r4, r5, r6, r7, r8, ⟨?_, r9.2⟩, fun j => ?_⟩
    · show n 3 + 1 ≤ 512; omega
    · by_cases z : j = 18
      · subst z
        rw [va_up_self]
        rcases hd with ⟨w1, w2, w3⟩ | ⟨w1, w2, w3⟩
        · rw [w3]; exact r10 18
        · rw [w3]; unfold al_cap; split <;> omega
      · rw [va_up_ne _ _ z]; exact r10 j
  · exact Pf
  · obtain ⟨l0, l1, l2, l3, l4, l5, l6, l7⟩ := Rl
    refine ⟨Pl 12 _ _ (by omega) (by omega) (by omega) l0, Pl 13 _ _ (by omega) (by omega) (by omega) l1, Pl 14 _ _ (by omega) (by omega) (by omega) l2, Pl 15 _ _ (by omega) (by omega) (by omega) l3, Pl 16 _ _ (by omega) (by omega) (by omega) l4, Pl 17 _ _ (by omega) (by omega) (by omega) l5, al, fun t' ht => ?_, fun t' ht => (va_up_ne _ _ (by omega)).trans (l7.2 t' ht)⟩
    have := Pb t' ht _ _ (l7.1 t' ht)
    rw [← show va_up cp 18 cc (20 + t') = cp (20 + t') from va_up_ne _ _ (by omega)] at this
    exact this
  · exact Pm
  · exact Pc
  · exact Pt
  · exact Ps
  · obtain ⟨p1, p2, p3, p4, p5⟩ := Pp
    refine ⟨p1, p2, fun j hj => ?_, p4, fun t1 ht hw => ?_⟩
    · have hj' : j < n 3 + 1 := hj
      by_cases z : j = n 3
      · subst z
        rw [eK, va_up_self, vS]
        exact ⟨c, k, am, un, t, w, a, sl, hp', up7_n _ _ c.toInt64 k.toInt64 am un t.toInt64 w.toInt64 a.toInt64⟩
      · rw [eK, va_up_ne _ _ z, vS]
        rw [up7_o (a := 7 * j) (by omega), up7_o (a := 7 * j + 1) (by omega), up7_o (a := 7 * j + 2) (by omega), up7_o (a := 7 * j + 3) (by omega), up7_o (a := 7 * j + 4) (by omega), up7_o (a := 7 * j + 5) (by omega), up7_o (a := 7 * j + 6) (by omega)]
        exact p3 j (by omega)
    · obtain ⟨q1, q2, q3, q4, q5⟩ := p5 t1 ht hw
      refine ⟨q1, q2, q3, fun j hj => ?_, q5⟩
      rw [eK]
      show _ ≠ y 6 t1
      by_cases z : j = n 3
      · subst z; rw [va_up_self]; exact hne t1 ht hw
      · rw [va_up_ne _ _ z]; exact q4 j (by have : j < n 3 + 1 := hj; omega)
end LISTS
