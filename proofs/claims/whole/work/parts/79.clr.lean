/-! clear: what it needs -/
def uA (s : MS) (k : Nat) (f : Nat → Int32) : MS := (s.1, s.2.1, va_up s.2.2.1 k f, s.2.2.2)
def clS (s : MS) (b : Nat) : MS := mL (mL (mL (mL (mL (mL (mL s 18 1 (s.2.2.2 56 (7 * b))) 18 2 (s.2.2.2 56 (7 * b + 1))) 18 3 (s.2.2.2 56 (7 * b + 2))) 18 4 (s.2.2.2 56 (7 * b + 3))) 18 5 (s.2.2.2 56 (7 * b + 4))) 18 6 (s.2.2.2 56 (7 * b + 5))) 18 8 (s.2.2.2 56 (7 * b + 6))
section CLR
variable {E : Ev} {A S : Nat → Prop} {h h' : Hp} {y y' : Nat → Nat → Nat} {s s' : MS} {n cp n' cp' : Nat → Nat} {i u k m kc ks t b : Nat} {r : Int32} {f : Nat → Int32}
theorem SealR.uA {key : Int32} {rs : Nat} {g : Nat → Int64} (hS : SealR s key rs g n cp r s' n' cp') (h1 : k ≠ 1) (h2 : k ≠ 2) : SealR (uA s k f) key rs g n cp r (uA s' k f) n' cp' := by
  have em : ∀ j', mq (Jvm.Pilot.CCardPaymentsLaw_law_r5056_c0c8e4.uA s k f) key rs g j' ↔ mq s key rs g j' := by
    intro j'
    unfold mq Jvm.Pilot.CCardPaymentsLaw_law_r5056_c0c8e4.uA
    dsimp only
    rw [va_up_ne _ _ (Ne.symm h1), va_up_ne _ _ (Ne.symm h2)]
  rcases hS with ⟨q, a1, a2, a3, a4, rfl, a5⟩ | ⟨a1, a2, rfl, a5⟩
  · exact Or.inl ⟨q, a1, (em q).mpr a2, fun k' hk z => a3 k' hk ((em k').mp z), a4, rfl, a5⟩
  · refine Or.inr ⟨fun k' hk z => a1 k' hk ((em k').mp z), a2, ?_, a5⟩
    unfold sealN Jvm.Pilot.CCardPaymentsLaw_law_r5056_c0c8e4.uA
    dsimp only
    rw [va_up_ne _ _ (Ne.symm h1), va_up_ne _ _ (Ne.symm h2), va_upC (k := 2) (j := k) (Ne.symm h2), va_upC (k := 1) (j := k) (Ne.symm h1)]
theorem lieA_uA {so nu oso onu sz : Int32} {B : Nat → Int32} (hk : 12 < k) : lieA (uA s k f) so nu oso onu sz B = uA (lieA s so nu oso onu sz B) k f := by
  have e : (lieA (uA s k f) so nu oso onu sz B).2.2.1 = (uA (lieA s so nu oso onu sz B) k f).2.2.1 := by
    funext q
    have k7 : 7 ≠ k := by omega
    have k8 : 8 ≠ k := by omega
    have k9 : 9 ≠ k := by omega
    have k10 : 10 ≠ k := by omega
    have k11 : 11 ≠ k := by omega
    have k12 : 12 ≠ k := by omega
    by_cases z : q = k
    · subst z
      simp [lieA, uA, mA, mI, sB, va_up, k7.symm, k8.symm, k9.symm, k10.symm, k11.symm, k12.symm]
    · simp [lieA, uA, mA, mI, sB, va_up, z, k7, k8, k9, k10, k11, k12]
  exact congrArg (fun z => (((lieA s so nu oso onu sz B).1, s.2.1, z, s.2.2.2) : MS)) e
theorem SendR.uA {k1 : Nat} {so nu oso onu : Int32} {g : Nat → Int64} (hS : SendR s k1 so nu oso onu g n r s' n') (hk : 12 < k) : SendR (uA s k f) k1 so nu oso onu g n r (uA s' k f) n' := by
  rcases hS with ⟨a1, a2, rfl, a3⟩ | ⟨a1, a2, a3, B, rfl, b1, b2⟩
  · exact Or.inl ⟨a1, a2, rfl, a3⟩
  · refine Or.inr ⟨a1, a2, a3, B, (lieA_uA hk).symm, b1, fun a ha => ?_⟩
    rw [b2 a ha]
    show _ = va_up s.2.2.1 k _ 12 a
    rw [va_up_ne _ _ (by omega)]
theorem clr_step (m : Nat) (s : MS) (tt cnt : Int32) (b : Nat) {j : Nat} (hj : j < 6) (hb : 7 * b + j < 4200) (K : MS → Int32 → Int32 → Int32 → Option (Int32 × MS)) : M_clear_L55 (m + 1) s tt cnt (nI b) (nI j) K = M_clear_L55 m (mL s 18 (j + 1) (s.2.2.2 56 (7 * b + j))) tt cnt (nI b) (nI (j + 1)) K := by
  rw [M_clear_L55]
  rw [if_neg (show ¬ (7 : Int32) ≤ nI j from nI_ge (a := j) (b := 7) (by omega) (by omega)), if_neg (show ¬ (6 : Int32) ≤ nI j from nI_ge (a := j) (b := 6) (by omega) (by omega))]
  unfold M_clear_L82
  rw [show (7 : Int32) * nI b = nI (7 * b) from pk_mul 7 _, nI_add, nI_1, if_neg (nI_in (by omega) (by omega)), if_neg (nI_in (by omega) (by omega)), nI_clamp (by omega), nI_clamp (by omega)]
  rfl
theorem clr_6 (m : Nat) (s : MS) (tt cnt : Int32) (b : Nat) (hb : 7 * b + 6 < 4200) (K : MS → Int32 → Int32 → Int32 → Option (Int32 × MS)) : M_clear_L55 (m + 1) s tt cnt (nI b) (nI 6) K = M_clear_L55 m (mL s 18 8 (s.2.2.2 56 (7 * b + 6))) tt cnt (nI b) (nI 7) K := by
  rw [M_clear_L55]
  rw [if_neg (show ¬ (7 : Int32) ≤ nI 6 by decide), if_pos (show (6 : Int32) ≤ nI 6 by decide)]
  unfold M_clear_L82
  rw [show (7 : Int32) * nI b = nI (7 * b) from pk_mul 7 _, nI_add, if_neg (nI_in (by omega) (by omega)), if_neg (by decide), nI_clamp (by omega), tC8]
  rfl
theorem clr_7 (m : Nat) (s : MS) (t : Nat) (cnt : Nat) (b : Nat) (K : MS → Int32 → Int32 → Int32 → Option (Int32 × MS)) : M_clear_L55 (m + 1) s (nI t) (nI cnt) (nI b) (nI 7) K = (M_sign s (nI t) (nI 11)).bind fun s12 => (M_send s12 11 1 (nI t) 2 0).bind fun px => if px.1 = 0 then K px.2 (nI t) (nI cnt) (nI (b + 1)) else K px.2 (nI t) (nI (cnt + 1)) (nI (b + 1)) := by
  rw [M_clear_L55]
  rw [if_pos (show (7 : Int32) ≤ nI 7 by decide)]
  unfold M_clear_L127 M_clear_L129
  rw [nI_1, show (nI cnt : Int32) + 0 = nI cnt from Int32.add_zero _, nI_1]
  rfl
theorem mL18_56 (s : MS) (j : Nat) (v : Int64) : (mL s 18 j v).2.2.2 56 = s.2.2.2 56 := rfl
theorem clr_eq (s : MS) (t cnt b : Nat) (hb : b < 512) (K : MS → Int32 → Int32 → Int32 → Option (Int32 × MS)) : M_clear_L55 mfu s (nI t) (nI cnt) (nI b) 0 K = (M_sign (clS s b) (nI t) (nI 11)).bind fun s12 => (M_send s12 11 1 (nI t) 2 0).bind fun px => if px.1 = 0 then K px.2 (nI t) (nI cnt) (nI (b + 1)) else K px.2 (nI t) (nI (cnt + 1)) (nI (b + 1)) := by
  obtain ⟨m, hm⟩ : ∃ m, mfu = m + 1 + 1 + 1 + 1 + 1 + 1 + 1 + 1 := ⟨8184, by unfold mfu; omega⟩
  rw [hm, ← nI_0]
  rw [clr_step _ _ _ _ b (by omega) (by omega), clr_step _ _ _ _ b (by omega) (by omega), clr_step _ _ _ _ b (by omega) (by omega), clr_step _ _ _ _ b (by omega) (by omega), clr_step _ _ _ _ b (by omega) (by omega), clr_step _ _ _ _ b (by omega) (by omega), clr_6 _ _ _ _ b (by omega), clr_7]
  simp only [mL18_56]
  rfl
theorem clS_v (s : MS) (b : Nat) : (clS s b).2.2.2 18 1 = s.2.2.2 56 (7 * b) ∧ (clS s b).2.2.2 18 2 = s.2.2.2 56 (7 * b + 1) ∧ (clS s b).2.2.2 18 3 = s.2.2.2 56 (7 * b + 2) ∧ (clS s b).2.2.2 18 4 = s.2.2.2 56 (7 * b + 3) ∧ (clS s b).2.2.2 18 5 = s.2.2.2 56 (7 * b + 4) ∧ (clS s b).2.2.2 18 6 = s.2.2.2 56 (7 * b + 5) ∧ (clS s b).2.2.2 18 8 = s.2.2.2 56 (7 * b + 6) := by
  have e : (clS s b).2.2.2 18 = vp_updL (vp_updL (vp_updL (vp_updL (vp_updL (vp_updL (vp_updL (s.2.2.2 18) 1 (s.2.2.2 56 (7 * b))) 2 (s.2.2.2 56 (7 * b + 1))) 3 (s.2.2.2 56 (7 * b + 2))) 4 (s.2.2.2 56 (7 * b + 3))) 5 (s.2.2.2 56 (7 * b + 4))) 6 (s.2.2.2 56 (7 * b + 5))) 8 (s.2.2.2 56 (7 * b + 6)) := by
    unfold clS; rw [mL_18, mL_18, mL_18, mL_18, mL_18, mL_18, mL_18]
  rw [e]
  refine ⟨?_, ?_, ?_, ?_, ?_, ?_, ?_⟩ <;> simp [vp_updL]
theorem clS_vis (s : MS) (b : Nat) : vis (clS s b) = vis s := by unfold clS; rw [vis_18, vis_18, vis_18, vis_18, vis_18, vis_18, vis_18]
theorem clS_A (s : MS) (b : Nat) : (clS s b).2.2.1 = s.2.2.1 := rfl
theorem bl_s {m : Nat} : bl s (m + 1) t = bl s m t ++ (if s.2.2.1 54 m = nI t ∧ s.2.2.1 55 m = 0 then [m] else []) := by
  unfold bl
  rw [List.range_succ, List.filter_append]
  congr 1
  by_cases z : s.2.2.1 54 m = nI t ∧ s.2.2.1 55 m = 0
  · rw [if_pos z, List.filter_cons_of_pos (by simpa using z), List.filter_nil]
  · rw [if_neg z, List.filter_cons_of_neg (by simpa using z), List.filter_nil]
theorem bl_at {N : Nat} (hb : b < N) (h1 : s.2.2.1 54 b = nI t) (h2 : s.2.2.1 55 b = 0) : (bl s b t).length < (bl s N t).length ∧ (bl s N t).getD (bl s b t).length 0 = b := by
  have pre : ∀ d, ∃ l, bl s (b + 1 + d) t = bl s (b + 1) t ++ l := by
    intro d
    induction d with
    | zero => exact ⟨[], by rw [Nat.add_zero, List.append_nil]⟩
    | succ d ih =>
      obtain ⟨l, e⟩ := ih
      refine ⟨l ++ (if s.2.2.1 54 (b + 1 + d) = nI t ∧ s.2.2.1 55 (b + 1 + d) = 0 then [b + 1 + d] else []), ?_⟩
      rw [show b + 1 + (d + 1) = (b + 1 + d) + 1 by omega, bl_s, e, List.append_assoc]
  obtain ⟨l, e⟩ := pre (N - (b + 1))
  rw [show b + 1 + (N - (b + 1)) = N by omega, bl_s, if_pos ⟨h1, h2⟩] at e
  rw [e]
  constructor
  · rw [List.length_append, List.length_append, List.length_singleton]; omega
  · rw [List.append_assoc, List.getD_eq_getElem?_getD, List.getElem?_append_right (Nat.le_refl _)]
    simp
theorem uns_mark {m : Nat} (hb : b < m) (h0 : s.2.2.1 55 b = 0) : uns (mA s 55 b 1) m + 1 = uns s m := by
  have key : ∀ m, (m ≤ b → uns (mA s 55 b 1) m = uns s m) ∧ (b < m → uns (mA s 55 b 1) m + 1 = uns s m) := by
    intro m
    induction m with
    | zero => exact ⟨fun _ => rfl, fun z => by omega⟩
    | succ m ih =>
      have st : ∀ z : MS, uns z (m + 1) = uns z m + (if z.2.2.1 55 m = 0 then 1 else 0) := by
        intro z
        unfold uns
        rw [List.range_succ, List.filter_append, List.length_append]
        congr 1
        by_cases w : z.2.2.1 55 m = 0
        · rw [if_pos w, List.filter_cons_of_pos (by simpa using w), List.filter_nil]; rfl
        · rw [if_neg w, List.filter_cons_of_neg (by simpa using w), List.filter_nil]; rfl
      have e55 : (mA s 55 b 1).2.2.1 55 = upd (s.2.2.1 55) b 1 := rfl
      rw [st, st, e55]
      refine ⟨fun z => ?_, fun z => ?_⟩
      · rw [pk_un (by omega), ih.1 (by omega)]
      · by_cases w : b = m
        · subst w
          rw [pk_us, if_neg (by decide), if_pos h0, ih.1 (Nat.le_refl _)]
        · rw [pk_un (by omega), ← ih.2 (by omega)]
          omega
  exact (key m).2 hb
theorem W2.mark (w : W2 i u s n) (hb : b < n 7) (h0 : s.2.2.1 55 b = 0) : ∃ v, u = v + 1 ∧ W2 i v (mA s 55 b 1) n := by
  obtain ⟨⟨c0, c1, c2, c3, c4, c5, c6, c7, c8⟩, wb, wg, wz, wa, wt, wp, wd, wf⟩ := w
  have e := uns_mark hb h0
  obtain ⟨v, rfl⟩ : ∃ v, u = v + 1 := ⟨u - 1, by omega⟩
  refine ⟨v, rfl, ⟨c0, c1, c2, c3, ⟨c4.1, by omega⟩, c5, c6, c7, c8⟩, wb, wg, wz, wa, wt, wp, wd, wf.1, fun t h1 h2 => ?_⟩
  obtain ⟨b1, b2, b3, b4, b5, b6, b7⟩ := wf.2 t h1 h2
  refine ⟨b1, b2, b3, b4, b5, b6, ?_⟩
  have sub : ∀ N, bl s N t = [] → bl (mA s 55 b 1) N t = [] := by
    intro N
    induction N with
    | zero => intro _; rfl
    | succ N ih =>
      intro e
      rw [bl_s] at e
      have e1 := List.append_eq_nil_iff.mp e
      rw [bl_s, ih e1.1, List.nil_append]
      by_cases z : s.2.2.1 54 N = nI t ∧ s.2.2.1 55 N = 0
      · rw [if_pos z] at e1; exact absurd e1.2 (by simp)
      · rw [if_neg]
        rintro ⟨z1, z2⟩
        have e55 : (mA s 55 b 1).2.2.1 55 = upd (s.2.2.1 55) b 1 := rfl
        rw [e55] at z2
        by_cases w : N = b
        · subst w; rw [pk_us] at z2; exact absurd z2 (by decide)
        · rw [pk_un w] at z2; exact z ⟨z1, z2⟩
  exact sub (n 7) b7
theorem uns_le {m : Nat} : uns s m ≤ m := by
  unfold uns
  have := List.length_filter_le (fun b => decide (s.2.2.1 55 b = 0)) (List.range m)
  rwa [List.length_range] at this
theorem W2.uA (w : W2 i u s n) (hbl : ∀ t', n 1 ≤ t' → t' < 8 → bl (uA s 55 f) (n 7) t' = []) : W2 i (u + n 7) (uA s 55 f) n := by
  obtain ⟨⟨c0, c1, c2, c3, c4, c5, c6, c7, c8⟩, wb, wg, wz, wa, wt, wp, wd, wf⟩ := w
  have e := uns_le (s := Jvm.Pilot.CCardPaymentsLaw_law_r5056_c0c8e4.uA s 55 f) (m := n 7)
  refine ⟨⟨c0, c1, c2, c3, ⟨c4.1, by omega⟩, c5, c6, c7, c8⟩, wb, wg, wz, wa, wt, wp, wd, wf.1, fun t h1 h2 => ?_⟩
  obtain ⟨b1, b2, b3, b4, b5, b6, -⟩ := wf.2 t h1 h2
  exact ⟨b1, b2, b3, b4, b5, b6, hbl t h1 h2⟩
end CLR
