/-! taking off and reading make nothing: where they end -/
section EX
variable {E : Ev} {A S : Nat → Prop} {h h' : Hp} {y y' : Nat → Nat → Nat} {s s' : MS} {n cp n' cp' : Nat → Nat} {i u k m sz : Nat} {r : Int32} {F f : Nat → Int32} {kd fs fr : Int32} {cf gf : Nat → Int64}
theorem e_takeOff (R : RXo E A h y s n cp) (hsz : ∀ j, j < 60 → s.2.2.1 11 j ≤ 64) (hk : k < n 2) : ∃ h', RXo E A h' (yO y k (n 2 - 1)) (remS s k (n 2 - 1)) (va_up n 2 (n 2 - 1)) cp ∧ xg (fun a => a = y 0 3 ∨ a = y 0 10) h h' ∧ xg A h h' ∧ ∀ (kc ks : Nat) (Q : Option Nat → Hp → Prop), Q (some (y 1 k)) h' → m_X9_takeOff E (y 0 3) (nI k) h kc ks Q := by
  have hn := R.2.1.2.2.1.2
  obtain ⟨-, -, -, f3, ⟨fw, f4, f4'⟩, -⟩ := id R.2.2.1
  obtain ⟨m, hm⟩ : ∃ m, n 2 = m + 1 := ⟨n 2 - 1, by omega⟩
  rw [show n 2 - 1 = m by omega]
  have key : ∀ d j hj fj, m - j = d → k ≤ j → j ≤ m → xg (fun a => a = y 0 3 ∨ a = y 0 10) h hj → xh_at hj (y 0 3) (.inr (10, [.ref (y 0 10), .int (nI (m + 1))])) → xh_at hj (y 0 10) (.inl (E.1 3, 60, .inr (.inr (.inr (.inr fj))))) → (∀ a, fj a = if k ≤ a ∧ a < j then fw (a + 1) else fw a) → ∃ h', RXo E A h' (yO y k m) (remS s k m) (va_up n 2 m) cp ∧ xg (fun a => a = y 0 3 ∨ a = y 0 10) h h' ∧ xg A h h' ∧ ∀ (kc ks : Nat) (Q : Option Nat → Hp → Prop), Q (some (y 1 k)) h' → m_X9_takeOff_L14 (d + 1) E (y 0 3) (some (y 1 k)) (nI j) hj kc ks Q := by
    intro d
    induction d with
    | zero =>
      intro j hj fj hd h1' h2' g g3 g10 hfj
      have : j = m := by omega
      subst this
      have n10 : y 0 10 ≠ y 0 3 := R.1.ne (ly0 (by omega)) (ly0 (by omega)) (by omega)
      obtain ⟨a, b, c, d, sz, f, m1, m2, m3⟩ := R.2.2.2.2.1 k (by omega)
      have no1 : ¬ (y 1 k = y 0 3 ∨ y 1 k = y 0 10) := by
        rintro (z | z)
        · exact R.1.ne (ly1 (by omega)) (ly0 (by omega)) (by omega) z
        · exact R.1.ne (ly1 (by omega)) (ly0 (by omega)) (by omega) z
      have m1' := (g.at m1 no1).ne (e' := .inr (10, [.ref (y 0 10), .int (nI (j + 1) - 1)])) (fun z => no1 (Or.inl z))
      have g3' := g3.set (e' := .inr (10, [.ref (y 0 10), .int (nI (j + 1) - 1)]))
      have g3'' := g3.set (e' := .inr (10, [.ref (y 0 10), .int (nI j)]))
      have hq := R.off (k := k) (m := j) (h' := xh_set (xh_set hj (y 0 3) (.inr (10, [.ref (y 0 10), .int (nI j)]))) (y 0 10) (.inl (E.1 3, 60, .inr (.inr (.inr (.inr (va_up fj j (some (y 1 k))))))))) (fw := va_up fj j (some (y 1 k))) hsz (by omega) (by omega) ((g.tr (xg.set (Or.inl rfl))).tr (xg.set (Or.inr rfl))) (g3''.ne (a := y 0 10) (e' := .inl (E.1 3, 60, .inr (.inr (.inr (.inr (va_up fj j (some (y 1 k)))))))) (fun z => n10 z.symm)) (xh_at.set (g10.ne n10)) (fun a ha => by
        by_cases z : a = j
        · subst z
          rw [va_up_self, if_pos (by omega)]
          unfold pm
          rw [if_neg (by omega), if_pos rfl]
        · rw [va_up_ne _ _ z, hfj a]
          by_cases z2 : k ≤ a ∧ a < j
          · rw [if_pos z2, f4' (a + 1) (by omega), if_pos (by omega), if_pos (by omega)]
            unfold pm
            rw [if_pos z2]
          · rw [if_neg z2, f4' a ha]
            unfold pm
            rw [if_neg z2, if_neg z])
      refine ⟨_, hq.1, (g.tr (xg.set (Or.inl rfl))).tr (xg.set (Or.inr rfl)), hq.2, fun kc ks Q hQ => ?_⟩
      refine gI_of g3 rfl ⟨fun _ => gI_of g3 rfl (pV_of g3 (by show 1 < 2; decide) ?_), fun z => absurd (by rw [nI_1]; exact Int32.le_refl _) z⟩
      refine gR_of g3' rfl (gI_of g3' rfl (nN_of (nN_of (isO_of m1' (sR_of (g10.ne n10) (j := j) (nI_pred j) (by omega) (by omega) ?_)))))
      rw [nI_pred]
      exact hQ
    | succ d ih =>
      intro j hj fj hd h1' h2' g g3 g10 hfj
      have ej : fj (j + 1) = some (y 1 (j + 1)) := by rw [hfj, if_neg (by omega), f4' (j + 1) (by omega), if_pos (by omega)]
      obtain ⟨a, b, c, d', sz, f, m1, m2, m3⟩ := R.2.2.2.2.1 (j + 1) (by omega)
      have no1 : ¬ (y 1 (j + 1) = y 0 3 ∨ y 1 (j + 1) = y 0 10) := by
        rintro (z | z)
        · exact R.1.ne (ly1 (by omega)) (ly0 (by omega)) (by omega) z
        · exact R.1.ne (ly1 (by omega)) (ly0 (by omega)) (by omega) z
      have n10 : y 0 3 ≠ y 0 10 := R.1.ne (ly0 (by omega)) (ly0 (by omega)) (by omega)
      obtain ⟨h', p1, p2, p3, p4⟩ := ih (j + 1) _ (va_up fj j (some (y 1 (j + 1)))) (by omega) (by omega) (by omega) (g.tr (xg.set (Or.inr rfl))) (g3.ne (e' := .inl (E.1 3, 60, .inr (.inr (.inr (.inr (va_up fj j (some (y 1 (j + 1))))))))) n10) (xh_at.set g10) (fun a => by
        by_cases z : a = j
        · subst z
          rw [va_up_self, if_pos ⟨h1', by omega⟩, f4' (a + 1) (by omega), if_pos (by omega)]
        · rw [va_up_ne _ _ z, hfj a]
          by_cases z2 : k ≤ a ∧ a < j
          · rw [if_pos z2, if_pos ⟨z2.1, by omega⟩]
          · rw [if_neg z2, if_neg (by omega)])
      refine ⟨h', p1, p2, p3, fun kc ks Q hQ => ?_⟩
      refine gI_of g3 rfl ⟨fun z => absurd z (by rw [nI_1]; exact nI_ge (by omega) (by omega)), fun _ => gR_of g3 rfl (gR_of g3 rfl (nN_of ?_))⟩
      refine aR_of g10 (nI_1 j) (by omega) (by omega) ej (nN_of (nN_of ?_))
      refine isO_of (g.at m1 no1) (sR_of g10 (j := j) rfl (by omega) (by omega) ?_)
      rw [nI_1]
      exact p4 kc ks Q hQ
  have f3' := f3
  rw [hm] at f3'
  obtain ⟨h', p1, p2, p3, p4⟩ := key (m - k) k h fw rfl (Nat.le_refl _) (by omega) xg.rf f3' f4 (fun a => by rw [if_neg (by omega)])
  refine ⟨h', p1, p2, p3, fun kc ks Q hQ => isO_of f3 (s_wget R (fun q => ?_) (fun j hj e => ⟨fun e => (by cases e), fun a ea => ?_⟩))⟩
  · rcases q with q | ⟨_, q⟩
    · exact absurd q (nI_pos (by omega))
    · exact absurd q (nI_ge hk (by omega))
  · have := (nI_eq (by omega) (by omega)).mp e
    subst this
    cases ea
    exact ⟨m - k + 1, p4 kc ks Q hQ⟩
theorem rdE {q b : Nat} {m0 m1 m2 m3 : Int32} (hk : 1 ≤ k ∧ k < 12) (hsz : sz ≤ 64) (hfF : ∀ a, a < sz → f a = F a) : ∀ d t h cf, 11 - t = d → t ≤ 11 → CX E A h y s n cp (nI k) fs fr cf gf → xh_at h q (.inr (5, mg m0 m1 m2 m3 (nI sz) b)) → xh_at h b (.inl (E.1 0, 64, .inl f)) → (rok F sz k t → ∃ h' cf', CX E A h' y s n cp (nI k) fs fr cf' gf ∧ xh_at h' q (.inr (5, mg m0 m1 m2 m3 (nI sz) b)) ∧ (∀ j, t ≤ j → j < 11 → hasK k (j + 1) = true → cf' (j + 1) = nmb F (szK k j + 2) (lenT (j + 1))) ∧ (∀ j, j ≤ t → cf' j = cf j) ∧ xg A h h' ∧ ∀ (kc ks : Nat) (Q : Int32 → Hp → Prop), Q 1 h' → m_X4_read_L60 (d + 1) E q (some (y 0 5)) (nI (szK k t)) (nI (t + 1)) h kc ks Q) ∧ (¬ rok F sz k t → ∃ h' cf', CX E A h' y s n cp (nI k) fs fr cf' gf ∧ xg A h h' ∧ ∀ (kc ks : Nat) (Q : Int32 → Hp → Prop), Q 0 h' → m_X4_read_L60 (d + 1) E q (some (y 0 5)) (nI (szK k t)) (nI (t + 1)) h kc ks Q) := by
  intro d
  induction d with
  | zero =>
    intro t h cf hd ht X hq hb
    have : t = 11 := by omega
    subst this
    have hs := szK_le k hk.2 11 (by omega)
    refine ⟨fun z => ⟨h, cf, X, hq, fun j a b _ => by omega, fun _ _ => rfl, xg.rf, fun kc ks Q hQ => ⟨fun _ => gI_of hq rfl ⟨fun _ => hQ, fun w => absurd (by rw [z.2]) w⟩, fun w => absurd (by decide) w⟩⟩, fun z => ⟨h, cf, X, xg.rf, fun kc ks Q hQ => ⟨fun _ => gI_of hq rfl ⟨fun w => absurd ⟨fun j a b _ => by omega, (nI_eq (by omega) (by omega)).mp w⟩ z, fun _ => hQ⟩, fun w => absurd (by decide) w⟩⟩⟩
  | succ d ih =>
    intro t h cf hd ht X hq hb
    have hs := szK_le k hk.2 t (by omega)
    have hl := (lenT_le (t + 1) (by omega)).1
    have n12 : ¬ (12 : Int32) ≤ nI (t + 1) := nI_ge (b := 12) (by omega) (by omega)
    cases hh : hasK k (t + 1) with
    | false =>
      have walk : ∀ (kc ks : Nat) (Q : Int32 → Hp → Prop), m_X4_read_L60 (d + 1) E q (some (y 0 5)) (nI (szK k (t + 1))) (nI (t + 1 + 1)) h kc ks Q → m_X4_read_L60 (d + 1 + 1) E q (some (y 0 5)) (nI (szK k t)) (nI (t + 1)) h kc ks Q := by
        intro kc ks Q hm
        refine ⟨fun z => absurd z n12, fun _ => nN_of (gI_of X.2.1 rfl (s_has hk.2 ?_))⟩
        rw [hh]
        refine ⟨fun _ => ?_, fun z => absurd (by simp) z⟩
        show m_X4_read_L60 (d + 1) E q (some (y 0 5)) (nI (szK k t)) (nI (t + 1) + 1) h kc ks Q
        rw [nI_1, ← szK_skip hh]
        exact hm
      obtain ⟨i1, i0⟩ := ih (t + 1) h cf (by omega) (by omega) X hq hb
      refine ⟨fun z => ?_, fun z => ?_⟩
      · obtain ⟨h', cf', p1, p2, p3, p4, p5, p6⟩ := i1 ((rok_n hh).mp z)
        refine ⟨h', cf', p1, p2, fun j a b c => ?_, fun j a => p4 j (by omega), p5, fun kc ks Q hQ => walk kc ks Q (p6 kc ks Q hQ)⟩
        by_cases zj : j = t
        · subst zj; rw [hh] at c; cases c
        · exact p3 j (by omega) b c
      · obtain ⟨h', cf', p1, p5, p6⟩ := i0 (fun w => z ((rok_n hh).mpr w))
        exact ⟨h', cf', p1, p5, fun kc ks Q hQ => walk kc ks Q (p6 kc ks Q hQ)⟩
    | true =>
      have ep : nI (szK k t) + 2 + nI (lenT (t + 1)) = nI (szK k t + 2 + lenT (t + 1)) := by rw [show nI (szK k t) + 2 = nI (szK k t + 2) from nI_add _ 2, nI_add]
      by_cases hfok : fok F sz k t
      · obtain ⟨X', g'⟩ := X.cs (t + 1) (nmb F (szK k t + 2) (lenT (t + 1)))
        have nq : q ≠ y 0 7 := hq.neq X.2.2.1 (by intro z; cases z)
        have nb : b ≠ y 0 7 := hb.neq X.2.2.1 (by intro z; injection z with z; injection z with _ z; injection z with _ z; cases z)
        have walk : ∀ (kc ks : Nat) (Q : Int32 → Hp → Prop), m_X4_read_L60 (d + 1) E q (some (y 0 5)) (nI (szK k (t + 1))) (nI (t + 1 + 1)) (xh_set h (y 0 7) (.inl (E.1 1, 12, .inr (.inl (vp_updL cf (t + 1) (nmb F (szK k t + 2) (lenT (t + 1)))))))) kc ks Q → m_X4_read_L60 (d + 1 + 1) E q (some (y 0 5)) (nI (szK k t)) (nI (t + 1)) h kc ks Q := by
          intro kc ks Q hm
          obtain ⟨o1, o2, o3⟩ := hfok
          refine ⟨fun z => absurd z n12, fun _ => nN_of (gI_of X.2.1 rfl (s_has hk.2 ?_))⟩
          rw [hh]
          refine ⟨fun z => absurd z (by simp), fun _ => isO_of hq ?_⟩
          refine rI1_of (by omega) (gI_of hq rfl ⟨fun z => ?_, fun z => ?_⟩)
          · rw [ep] at z
            have := (nI_ltI (by omega) (by omega)).mp z
            omega
          refine gR_of hq rfl (nN_of (aI_of hb rfl (by omega) (by omega) (hfF _ (by omega)) ⟨fun a1 => gR_of hq rfl (nN_of (aI_of hb (nI_1 _) (by omega) (by omega) (hfF _ (by omega)) (rI1_of (by omega) ⟨fun a2 => ?_, fun a2 => absurd o3 a2⟩))), fun a1 => absurd o2 a1⟩))
          refine ⟨fun z => absurd z (by decide), fun _ => gR_of X.2.1 rfl (rI1_of (by omega) (isO_of hq ⟨lenT (t + 1) + 1, ?_⟩))⟩
          rw [show nI (szK k t) + 2 = nI (szK k t + 2) from nI_add _ 2]
          refine rdX_in hq rfl hb (p := szK k t + 2) (len := lenT (t + 1)) (by omega) ?_ (lenT (t + 1)) 0 (by omega) (by omega)
          refine nN_of (sL_of X.2.2.1 (j := t + 1) rfl (by omega) (by omega) (rI1_of (by omega) ?_))
          show m_X4_read_L60 (d + 1) E q (some (y 0 5)) (nI (szK k t) + (2 + nI (lenT (t + 1)))) (nI (t + 1) + 1) _ kc ks Q
          rw [nI_1, show (2 : Int32) + nI (lenT (t + 1)) = nI (2 + lenT (t + 1)) from nI_add 2 _, nI_add, ← szK_step hh, nmb_c (F := F) (lenT (t + 1)) (fun a b1 b2 => hfF a (by omega))]
          exact hm
        obtain ⟨i1, i0⟩ := ih (t + 1) _ _ (by omega) (by omega) X' (hq.ne nq) (hb.ne nb)
        refine ⟨fun z => ?_, fun z => ?_⟩
        · obtain ⟨h', cf', p1, p2, p3, p4, p5, p6⟩ := i1 ((rok_y (by omega) hh hfok).mp z)
          refine ⟨h', cf', p1, p2, fun j a b c => ?_, fun j a => ?_, g'.tr p5, fun kc ks Q hQ => walk kc ks Q (p6 kc ks Q hQ)⟩
          · by_cases zj : j = t
            · subst zj; rw [p4 (j + 1) (by omega), pk_uLs]
            · exact p3 j (by omega) b c
          · rw [p4 j (by omega), pk_uLn (by omega)]
        · obtain ⟨h', cf', p1, p5, p6⟩ := i0 (fun w => z ((rok_y (by omega) hh hfok).mpr w))
          exact ⟨h', cf', p1, g'.tr p5, fun kc ks Q hQ => walk kc ks Q (p6 kc ks Q hQ)⟩
      · refine ⟨fun z => absurd (z.1 t (Nat.le_refl _) (by omega) hh) hfok, fun _ => ⟨h, cf, X, xg.rf, fun kc ks Q hQ => ?_⟩⟩
        refine ⟨fun z => absurd z n12, fun _ => nN_of (gI_of X.2.1 rfl (s_has hk.2 ?_))⟩
        rw [hh]
        refine ⟨fun z => absurd z (by simp), fun _ => isO_of hq ?_⟩
        refine rI1_of (by omega) (gI_of hq rfl ⟨fun z => ⟨fun _ => hQ, fun z => absurd rfl z⟩, fun z => ?_⟩)
        rw [ep] at z
        have q' : szK k t + 2 + lenT (t + 1) ≤ sz := Nat.le_of_not_lt (fun w => z ((nI_ltI (by omega) (by omega)).mpr w))
        refine gR_of hq rfl (nN_of (aI_of hb rfl (by omega) (by omega) (hfF _ (by omega)) ⟨fun a1 => gR_of hq rfl (nN_of (aI_of hb (nI_1 _) (by omega) (by omega) (hfF _ (by omega)) (rI1_of (by omega) ⟨fun a2 => absurd ⟨q', a1, a2⟩ hfok, fun a2 => ⟨fun _ => hQ, fun z => absurd rfl z⟩⟩))), fun a1 => ⟨fun _ => hQ, fun z => absurd rfl z⟩⟩))
theorem e_read {b0 q b : Nat} {m0 m1 m2 m3 : Int32} (R : RXo E A h y s n cp) (hq : xh_at h q (.inr (5, mg m0 m1 m2 m3 (nI sz) b))) (hb : xh_at h b (.inl (E.1 0, 64, .inl f))) (hsz : sz ≤ 64) (hfF : ∀ a, a < sz → f a = F a) (hF : F 0 = nI b0) (hb0 : b0 ≤ 255) :
    (1 ≤ b0 → b0 ≤ 11 → rok F sz b0 0 → ∃ h' cf' gf', CX E A h' y s n cp (nI b0) m0 m1 cf' gf' ∧ xh_at h' q (.inr (5, mg m0 m1 m2 m3 (nI sz) b)) ∧ (∀ j, j < 11 → hasK b0 (j + 1) = true → cf' (j + 1) = nmb F (szK b0 j + 2) (lenT (j + 1))) ∧ xg A h h' ∧ ∀ (kc ks : Nat) (Q : Int32 → Hp → Prop), Q 1 h' → m_X4_read E q (some (y 0 5)) h kc ks Q) ∧ (¬ (1 ≤ b0 ∧ b0 ≤ 11 ∧ rok F sz b0 0) → ∃ h', RXo E A h' y s n cp ∧ xg A h h' ∧ ∀ (kc ks : Nat) (Q : Int32 → Hp → Prop), Q 0 h' → m_X4_read E q (some (y 0 5)) h kc ks Q) := by
  obtain ⟨kd, fs, fr, cf, gf, X⟩ := CX.of R
  have nq : q ≠ y 0 5 := hq.neq X.2.1 (by intro z; injection z with z; injection z with z; omega)
  have nb : b ≠ y 0 5 := hb.neq X.2.1 (by intro z; cases z)
  by_cases z0 : sz = 0
  · subst z0
    refine ⟨fun _ c2 w => ?_, fun _ => ⟨h, R, xg.rf, fun kc ks Q hQ => gI_of hq rfl ⟨fun _ => hQ, fun z => absurd rfl z⟩⟩⟩
    have h2 : 1 ≤ szK b0 11 := szK_11 b0 (by omega) 0 (by omega)
    have := w.2
    omega
  have hz : 0 < sz := by omega
  have z1 : ¬ nI sz = 0 := nI_ne0 hz (by omega)
  by_cases c1 : 1 ≤ b0
  rotate_left
  · refine ⟨fun w => absurd w c1, fun _ => ⟨h, R, xg.rf, fun kc ks Q hQ => gI_of hq rfl ⟨fun z => absurd z z1, fun _ => gR_of hq rfl (nN_of (aI_of hb nI_0.symm (by omega) (by omega) ((hfF 0 hz).trans hF) ⟨fun _ => hQ, fun z => absurd ((nI_ltI (b := 1) (by omega) (by omega)).mpr (by omega)) z⟩))⟩⟩⟩
  have n1 : ¬ nI b0 < 1 := fun w => by have := (nI_ltI (b := 1) (by omega) (by omega)).mp w; omega
  by_cases c2 : b0 ≤ 11
  rotate_left
  · have n2 : ¬ nI b0 ≤ 11 := fun w => c2 ((nI_leI (b := 11) (by omega) (by omega)).mp w)
    refine ⟨fun _ w => absurd w c2, fun _ => ⟨h, R, xg.rf, fun kc ks Q hQ => gI_of hq rfl ⟨fun z => absurd z z1, fun _ => gR_of hq rfl (nN_of (aI_of hb nI_0.symm (by omega) (by omega) ((hfF 0 hz).trans hF) ⟨fun z => absurd z n1, fun _ => gR_of hq rfl (nN_of (aI_of hb nI_0.symm (by omega) (by omega) ((hfF 0 hz).trans hF) ⟨fun z => absurd z n2, fun _ => hQ⟩))⟩))⟩⟩⟩
  have y2 : nI b0 ≤ 11 := (nI_leI (b := 11) (by omega) (by omega)).mpr c2
  obtain ⟨X1, g1⟩ := X.kw (nI b0) fs fr
  have q1 := hq.ne (e' := .inr (3, [.int (nI b0), .int fs, .int fr, .ref (y 0 7)])) nq
  have b1 := hb.ne (e' := .inr (3, [.int (nI b0), .int fs, .int fr, .ref (y 0 7)])) nb
  obtain ⟨X2, g2⟩ := X1.kw (nI b0) m0 fr
  have q2 := q1.ne (e' := .inr (3, [.int (nI b0), .int m0, .int fr, .ref (y 0 7)])) nq
  have b2 := b1.ne (e' := .inr (3, [.int (nI b0), .int m0, .int fr, .ref (y 0 7)])) nb
  obtain ⟨X3, g3⟩ := X2.kw (nI b0) m0 m1
  have q3 := q2.ne (e' := .inr (3, [.int (nI b0), .int m0, .int m1, .ref (y 0 7)])) nq
  have b3 := b2.ne (e' := .inr (3, [.int (nI b0), .int m0, .int m1, .ref (y 0 7)])) nb
  have walk : ∀ (kc ks : Nat) (Q : Int32 → Hp → Prop), m_X4_read_L60 (11 + 1) E q (some (y 0 5)) (nI (szK b0 0)) (nI (0 + 1)) _ kc ks Q → m_X4_read E q (some (y 0 5)) h kc ks Q := fun kc ks Q hm => gI_of hq rfl ⟨fun z => absurd z z1, fun _ => gR_of hq rfl (nN_of (aI_of hb nI_0.symm (by omega) (by omega) ((hfF 0 hz).trans hF) ⟨fun z => absurd z n1, fun _ => gR_of hq rfl (nN_of (aI_of hb nI_0.symm (by omega) (by omega) ((hfF 0 hz).trans hF) ⟨fun _ => gR_of hq rfl (nN_of (aI_of hb nI_0.symm (by omega) (by omega) ((hfF 0 hz).trans hF) (nN_of (pV_of X.2.1 (by show 0 < 4; decide) (gI_of q1 rfl (pV_of X1.2.1 (by show 1 < 4; decide) (gI_of q2 rfl (pV_of X2.2.1 (by show 2 < 4; decide) ⟨11 + 1, hm⟩)))))))), fun z => absurd y2 z⟩))⟩))⟩
  obtain ⟨i1, i0⟩ := rdE (F := F) (k := b0) (fs := m0) (fr := m1) (gf := gf) ⟨c1, by omega⟩ hsz hfF 11 0 _ cf (by omega) (by omega) X3 q3 b3
  refine ⟨fun _ _ z => ?_, fun z => ?_⟩
  · obtain ⟨h', cf', p1, p2, p3, p4, p5, p6⟩ := i1 z
    exact ⟨h', cf', gf, p1, p2, fun j a b => p3 j (by omega) a b, g1.tr (g2.tr (g3.tr p5)), fun kc ks Q hQ => walk kc ks Q (p6 kc ks Q hQ)⟩
  · obtain ⟨h', cf', p1, p5, p6⟩ := i0 (fun w => z ⟨c1, c2, w⟩)
    exact ⟨h', p1.1, g1.tr (g2.tr (g3.tr p5)), fun kc ks Q hQ => walk kc ks Q (p6 kc ks Q hQ)⟩
end EX
