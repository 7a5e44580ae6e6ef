/-! the class writes a message -/
def mg (so nu oso onu sz : Int32) (b : Nat) : List Value := [.int so, .int nu, .int oso, .int onu, .int sz, .ref b]
theorem rI0_of {k : Nat} {P : Int32 → Prop} (hk : k < 12) (p : P (xs_F.getD k 0)) : rI 0 (nI k) P := ⟨12, _, _, rfl, pk_in k 12 hk, by rw [nI_clamp (by omega)], p⟩
theorem rI1_of {t : Nat} {P : Int32 → Prop} (ht : t < 12) (p : P (nI (lenT t))) : rI 1 (nI t) P := ⟨12, _, _, rfl, pk_in t 12 ht, by rw [nI_clamp (by omega), (lenT_le t ht).2], p⟩
theorem s_has {E : Ev} {h : Hp} {k t kc ks : Nat} {Q : Int32 → Hp → Prop} (hk : k < 12) (q : Q (if hasK k t then 1 else 0) h) : m_X4_hasField E (nI k) (nI t) h kc ks Q := by
  refine rI0_of hk ⟨fun e => ?_, fun e => ?_⟩
  · rw [show hasK k t = true from decide_eq_true e] at q; exact q
  · rw [show hasK k t = false from decide_eq_false e] at q; exact q
theorem s_writeL {E : Ev} {so nu oso onu : Int32} {a b p t len : Nat} {v : Int64} {kc ks : Nat} {Q : Hp → Prop} (hp : p + 2 + len ≤ 64) :
    ∀ (d i : Nat) (h : Hp) (f : Nat → Int32), len - i = d → i ≤ len → xh_at h a (.inr (5, mg so nu oso onu (nI p) b)) → xh_at h b (.inl (E.1 0, 64, .inl f)) →
    (∀ h' f', xh_at h' a (.inr (5, mg so nu oso onu (nI (p + (2 + len))) b)) → xh_at h' b (.inl (E.1 0, 64, .inl f')) → (∀ j, i ≤ j → j < len → f' (p + 2 + j) = bv v len j) → (∀ j, (j < p + 2 + i ∨ p + 2 + len ≤ j) → f' j = f j) → xg (fun x => x = a ∨ x = b) h h' → Q h') → m_X4_writeField_L48 (d + 1) E a v (nI len) (nI i) h kc ks Q := by
  intro d
  induction d with
  | zero =>
    intro i h f hd hi ha hb hQ
    refine ⟨fun _ => ?_, fun q => absurd (nI_le (by omega) (by omega)) q⟩
    refine gI_of ha rfl (pV_of ha (by show 4 < 6; decide) ?_)
    have e : nI p + (2 + nI len) = nI (p + (2 + len)) := by rw [show (2 : Int32) + nI len = nI (2 + len) from nI_add 2 len, nI_add]
    rw [e]
    exact hQ _ f ha.set (hb.ne (hb.neq ha (by intro q; cases q))) (fun j h1 h2 => by omega) (fun _ _ => rfl) (xg.set (Or.inl rfl))
  | succ d ih =>
    intro i h f hd hi ha hb hQ
    refine ⟨fun q => absurd q (nI_ge (by omega) (by omega)), fun _ => ?_⟩
    refine gR_of ha rfl (gI_of ha rfl (fun x31 e31 => nN_of ?_))
    have e : nI p + 2 + nI i = nI (p + 2 + i) := by rw [show nI p + 2 = nI (p + 2) from nI_add p 2, nI_add]
    refine sI_of hb e (by omega) (by omega) ?_
    rw [nI_1]
    refine ih (i + 1) _ _ (by omega) (by omega) (ha.ne (ha.neq hb (by intro q; cases q))) hb.set (fun h' f' p1 p2 p3 p4 p5 => hQ h' f' p1 p2 (fun j h1 h2 => ?_) (fun j hj => ?_) ((xg.set (Or.inr rfl)).tr p5))
    · by_cases z : j = i
      · subst z; rw [p4 _ (by omega), pk_us, e31]; rfl
      · exact p3 j (by omega) h2
    · rw [p4 j (by omega), pk_un (by omega)]
theorem s_writeOut {E : Ev} {so nu oso onu : Int32} {a b o d' k : Nat} {kf kb : Int32} {g : Nat → Int64} {kc ks : Nat} {Q : Hp → Prop} (hk : 1 ≤ k ∧ k < 12) :
    ∀ (d t : Nat) (h : Hp) (f : Nat → Int32), 11 - t = d → t ≤ 11 → xh_at h a (.inr (5, mg so nu oso onu (nI (szK k t)) b)) → xh_at h b (.inl (E.1 0, 64, .inl f)) → xh_at h o (.inr (3, [.int (nI k), .int kf, .int kb, .ref d'])) → xh_at h d' (.inl (E.1 1, 12, .inr (.inl g))) → (∀ i, i < szK k t → f i = wvT k g t i) →
    (∀ h' f', xh_at h' a (.inr (5, mg so nu oso onu (nI (szK k 11)) b)) → xh_at h' b (.inl (E.1 0, 64, .inl f')) → (∀ i, i < szK k 11 → f' i = wvT k g 11 i) → xg (fun x => x = a ∨ x = b) h h' → Q h') → m_X4_write_L17 (d + 1) E a (some o) (nI (t + 1)) h kc ks Q := by
  intro d
  induction d with
  | zero =>
    intro t h f hd ht ha hb ho hg hf hQ
    have : t = 11 := by omega
    subst this
    exact ⟨fun _ => hQ h f ha hb hf xg.rf, fun q => absurd (by decide) q⟩
  | succ d ih =>
    intro t h f hd ht ha hb ho hg hf hQ
    have hsz := szK_le k hk.2 t (by omega)
    have hsz1 := szK_le k hk.2 (t + 1) (by omega)
    refine ⟨fun q => absurd q (show ¬ (12 : Int32) ≤ nI (t + 1) from nI_ge (b := 12) (by omega) (by omega)), fun _ => nN_of (gI_of ho rfl (s_has hk.2 ?_))⟩
    cases hh : hasK k (t + 1) with
    | false =>
      refine ⟨fun _ => ?_, fun q => absurd (by simp) q⟩
      unfold m_X4_write_L45
      rw [nI_1]
      exact ih (t + 1) h f (by omega) (by omega) (by rw [szK_no hh]; exact ha) hb ho hg (fun i hi => by rw [szK_no hh] at hi; rw [wvT_no hh]; exact hf i hi) hQ
    | true =>
      refine ⟨fun q => absurd q (by simp), fun _ => ?_⟩
      have hl := (lenT_le (t + 1) (by omega)).1
      have hsy := szK_yes hh
      refine gR_of ho rfl (nN_of (aL_of hg rfl (show t + 1 < 12 by omega) (by omega) rfl (isO_of ha ?_)))
      refine rI1_of (by omega) (gI_of ha rfl ⟨fun _ => ?_, fun q => absurd ?_ q⟩)
      · refine gR_of ha rfl (gI_of ha rfl (nN_of (sI_of hb rfl (by omega) (by omega) ?_)))
        have hab := ha.neq hb (by intro q; cases q)
        have ha1 := ha.ne (e' := .inl (E.1 0, 64, .inl (upd f (szK k t) (nI (t + 1))))) hab
        refine gR_of ha1 rfl (gI_of ha1 rfl (nN_of (sI_of hb.set (nI_1 _) (by omega) (by omega) ⟨lenT (t + 1) + 1, ?_⟩)))
        refine s_writeL (t := t) (by omega) (lenT (t + 1)) 0 _ _ (by omega) (by omega) (ha1.ne hab) hb.set.set (fun h' f' p1 p2 p3 p4 p5 => ?_)
        unfold m_X4_write_L45
        rw [nI_1]
        have g1 : xg (fun x => x = a ∨ x = b) h h' := ((xg.set (Or.inr rfl)).tr (xg.set (Or.inr rfl))).tr p5
        refine ih (t + 1) h' f' (by omega) (by omega) (by rw [hsy]; exact p1) p2 (g1.at ho ?_) (g1.at hg ?_) (fun i hi => ?_) (fun h2 f2 q1 q2 q3 q4 => hQ h2 f2 q1 q2 q3 (g1.tr q4))
        · rintro (z | z)
          · exact ho.neq ha (by intro q; injection q with q; injection q with q; omega) z
          · exact ho.neq hb (by intro q; cases q) z
        · rintro (z | z)
          · exact hg.neq ha (by intro q; cases q) z
          · exact hg.neq hb (by intro q; injection q with q; injection q with q1 q2; injection q2 with q2 q3; cases q3) z
        · by_cases z : i < szK k t
          · rw [wvT_low z, p4 _ (by omega), pk_un (by omega), pk_un (by omega)]; exact hf i z
          · rw [wvT_f hh (by omega)]
            by_cases z1 : i = szK k t
            · subst z1; rw [if_pos rfl, p4 _ (by omega), pk_un (by omega), pk_us]
            · rw [if_neg z1]
              by_cases z2 : i = szK k t + 1
              · subst z2; rw [if_pos rfl, p4 _ (by omega), pk_us]
              · rw [if_neg z2, ← p3 (i - szK k t - 2) (by omega) (by omega)]
                congr 1; omega
      · rw [show nI (szK k t) + 2 = nI (szK k t + 2) from nI_add _ 2, nI_add]
        exact nI_le (b := 64) (by omega) (by omega)
theorem s_write {E : Ev} {so nu oso onu sz : Int32} {a b o d' k : Nat} {kf kb : Int32} {g : Nat → Int64} {f : Nat → Int32} {h : Hp} {kc ks : Nat} {Q : Hp → Prop} (hk : 1 ≤ k ∧ k < 12) (ha : xh_at h a (.inr (5, mg so nu oso onu sz b))) (hb : xh_at h b (.inl (E.1 0, 64, .inl f))) (ho : xh_at h o (.inr (3, [.int (nI k), .int kf, .int kb, .ref d']))) (hg : xh_at h d' (.inl (E.1 1, 12, .inr (.inl g))))
    (hQ : ∀ h' f', xh_at h' a (.inr (5, mg so nu oso onu (nI (szK k 11)) b)) → xh_at h' b (.inl (E.1 0, 64, .inl f')) → (∀ i, i < szK k 11 → f' i = wvT k g 11 i) → xg (fun x => x = a ∨ x = b) h h' → Q h') : m_X4_write E a (some o) h kc ks Q := by
  refine gR_of ha rfl (nN_of (gI_of ho rfl (nN_of (sI_of hb rfl (show 0 < 64 by omega) (by omega) ?_))))
  have hab := ha.neq hb (by intro q; cases q)
  have ha1 := ha.ne (e' := .inl (E.1 0, 64, .inl (upd f 0 (nI k)))) hab
  refine pV_of ha1 (by show 4 < 6; decide) ⟨12, ?_⟩
  have g1 : xg (fun x => x = a ∨ x = b) h _ := (xg.set (e := .inl (E.1 0, 64, .inl (upd f 0 (nI k)))) (Or.inr rfl)).tr (xg.set (e := .inr (5, mg so nu oso onu 1 b)) (Or.inl rfl))
  refine s_writeOut hk 11 0 _ (upd f 0 (nI k)) (by omega) (by omega) ha1.set (hb.set.ne (fun z => hab z.symm)) (g1.at ho ?_) (g1.at hg ?_) (fun i hi => ?_) (fun h2 f2 q1 q2 q3 q4 => hQ h2 f2 q1 q2 q3 (g1.tr q4))
  · rintro (z | z)
    · exact ho.neq ha (by intro q; injection q with q; injection q with q; omega) z
    · exact ho.neq hb (by intro q; cases q) z
  · rintro (z | z)
    · exact hg.neq ha (by intro q; cases q) z
    · exact hg.neq hb (by intro q; injection q with q; injection q with q1 q2; injection q2 with q2 q3; cases q3) z
  · have : i = 0 := by have : szK k 0 = 1 := rfl; omega
    subst this
    rw [pk_us]; rfl
