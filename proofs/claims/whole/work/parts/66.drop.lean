/-! takeOff, drop -/
section DROP
variable {E : Ev} {A S : Nat → Prop} {h h' : Hp} {y y' : Nat → Nat → Nat} {s s' : MS} {n cp n' cp' : Nat → Nat} {i u k m kc ks : Nat} {r : Int32}
theorem JP.sj {X : Nat → Nat → (Int32 → Hp → Prop) → Prop} (hb : RXb i n cp kc ks) (hi : i < 512) (j : JP E A h y n cp (i + 1) u X r s') (hu : u ≤ 2 * i + 2) : WF (i + 1) s' ∧ cK kc ks fun mc ms kc1 ks1 => ∀ Q : Int32 → Hp → Prop, (∀ h', RX E A h' (y 0 0) s' (i + 1) kc1 ks1 → xg A h h' → Q r h') → X mc ms Q := by
  obtain ⟨n', cp', j1, j2, j3, j4⟩ := j
  have b1 : 20 * (512 - i) + Fc n ≤ kc := by have := hb.1; unfold Fc; omega
  have b2 : 2000 * (512 - i) + Fs n cp ≤ ks := by have := hb.2; unfold Fs; omega
  refine ⟨⟨n', j1.mono (Nat.le_refl _) (by omega)⟩, cK_of (20 + (Fc n - Fc n')) (2000 + (Fs n cp - Fs n' cp')) (by omega) (by omega) (fun Q hQ => j4 _ _ (by omega) (by omega) Q (fun h' y' R' hy g' => hQ h' ⟨y', n', cp', hy.symm, R', ?_, ?_⟩ g'))⟩
  · show 20 * (512 - (i + 1)) + 4 * (2048 - n' 4) + 2 * (60 - n' 9) ≤ _
    unfold Fc at *; omega
  · show 2000 * (512 - (i + 1)) + 20 * (2048 - n' 4) + 70 * (60 - n' 9) + (491520 - 4 * cpS cp') ≤ _
    unfold Fs at *; omega
theorem JZ.sj {X : (Int32 → Hp → Prop) → Prop} (hb : RXb i n cp kc ks) (hw : W2 (i + 1) u s' n') (hu : u ≤ 2 * i + 2) (h4 : n' 4 = n 4) (h9 : n' 9 = n 9) (hX : ∀ Q : Int32 → Hp → Prop, (∀ h' y', RXo E A h' y' s' n' cp → y' 0 0 = y 0 0 → xg A h h' → Q r h') → X Q) : WF (i + 1) s' ∧ ∀ Q : Int32 → Hp → Prop, (∀ h', RX E A h' (y 0 0) s' (i + 1) kc ks → xg A h h' → Q r h') → X Q := by
  refine ⟨⟨n', hw.mono (Nat.le_refl _) (by omega)⟩, fun Q hQ => hX Q (fun h' y' R' hy g' => hQ h' ⟨y', n', cp, hy.symm, R', ?_⟩ g')⟩
  have := hb.next
  unfold RXb at *
  rw [h4, h9]
  exact this
theorem WF.w (hW : WF i s) (hi : i < 512) (R : RXo E A h y s n cp) : W2 i (2 * i) s n := by
  obtain ⟨c, w⟩ := hW
  exact w.tr (by omega) (by omega) R.2.1
theorem W2.off (w : W2 i u s n) (hm : n 2 = m + 1) (hk : k ≤ m) : W2 i u (remS s k m) (va_up n 2 m) := by
  obtain ⟨⟨c0, c1, c2, c3, c4, c5, c6, c7, c8⟩, wb, wg, wz, wa, wt, wp, wd, wf⟩ := w
  have hm60 : m < 60 := by omega
  refine ⟨⟨c0, c1, ⟨rfl, by show m ≤ 60; omega⟩, c3, ⟨c4.1, ?_⟩, c5, c6, c7, c8⟩, fun a ha => ?_, fun a ha => ?_, fun j hj => ?_, fun j hj => ?_, fun t ht => ?_, fun c hc => ?_, ?_, ?_⟩
  · show n 4 + uns (remS s k m) (n 7) ≤ u
    rw [uns_c (s := s) (fun b _ => by rw [remS_A (by omega)])]
    exact c4.2
  · obtain ⟨a', h1, h2⟩ := remS_b (s := s) (k := k) hm60 ha
    rw [h2]; exact wb a' h1
  · rw [remS_A (by omega)]; exact wg a ha
  · obtain ⟨a', h1, h2⟩ := remS_s (s := s) (k := k) (m := m) (q := 11) (j := j) (by omega) (by omega)
    rw [h2]; exact wz a' (h1 hj hm60)
  · have hj : j < m := hj
    rw [remS_7 (by omega) (by omega) hj, remS_7 (by omega) (by omega) hj, remS_7 (by omega) (by omega) hj, remS_7 (by omega) (by omega) hj]
    exact wa (pm k m j) (by unfold pm; split <;> (try split) <;> omega)
  · rw [remS_A (by omega), remS_A (by omega), remS_A (by omega)]
    exact wt t ht
  · rw [remS_A (by omega)]; exact wp c hc
  · exact wd
  · refine ⟨fun c h1 h2 => ?_, fun t h1 h2 => ?_⟩
    · rw [remS_A (by omega), remS_A (by omega), remS_A (by omega), remS_A (by omega), remS_A (by omega)]
      exact wf.1 c h1 h2
    · rw [remS_A (by omega), remS_A (by omega), remS_A (by omega), remS_A (by omega), remS_A (by omega), remS_A (by omega)]
      obtain ⟨b1, b2, b3, b4, b5, b6, b7⟩ := wf.2 t h1 h2
      refine ⟨b1, b2, b3, b4, b5, b6, ?_⟩
      show bl (remS s k m) (n 7) t = []
      rw [bl_c (s := s) (fun b _ => by rw [remS_A (by omega), remS_A (by omega)]; exact ⟨rfl, rfl⟩)]
      exact b7
theorem s_takeOff {z : Int32} {Q : Option Nat → Hp → Prop} (R : RXo E A h y s n cp) (hsz : ∀ j, j < 60 → s.2.2.1 11 j ≤ 64) (h0 : (z < 0 ∨ (¬ z < 0 ∧ nI (n 2) ≤ z)) → Q none h) (h1 : ∀ k, k < n 2 → z = nI k → ∀ h', RXo E A h' (yO y k (n 2 - 1)) (remS s k (n 2 - 1)) (va_up n 2 (n 2 - 1)) cp → xg (fun a => a = y 0 3 ∨ a = y 0 10) h h' → xg A h h' → Q (some (y 1 k)) h') : m_X9_takeOff E (y 0 3) z h kc ks Q := by
  have hn := R.2.1.2.2.1.2
  obtain ⟨-, -, -, f3, ⟨fw, f4, f4'⟩, -⟩ := id R.2.2.1
  refine isO_of f3 (s_wget R (fun q => ⟨fun _ => h0 q, fun a e => by cases e⟩) (fun k hk e => ⟨fun e => (by cases e), fun a ea => ?_⟩))
  cases ea
  obtain ⟨m, hm⟩ : ∃ m, n 2 = m + 1 := ⟨n 2 - 1, by omega⟩
  have key : ∀ d j hj fj, m - j = d → k ≤ j → j ≤ m → xg (fun a => a = y 0 3 ∨ a = y 0 10) h hj → xh_at hj (y 0 3) (.inr (10, [.ref (y 0 10), .int (nI (m + 1))])) → xh_at hj (y 0 10) (.inl (E.1 3, 60, .inr (.inr (.inr (.inr fj))))) → (∀ a, fj a = if k ≤ a ∧ a < j then fw (a + 1) else fw a) → m_X9_takeOff_L14 (d + 1) E (y 0 3) (some (y 1 k)) (nI j) hj kc ks Q := by
    intro d
    induction d with
    | zero =>
      intro j hj fj hd h1' h2' g g3 g10 hfj
      have : j = m := by omega
      subst this
      refine gI_of g3 rfl ⟨fun _ => gI_of g3 rfl (pV_of g3 (by show 1 < 2; decide) ?_), fun z => absurd (by rw [nI_1]; exact Int32.le_refl _) z⟩
      have n10 : y 0 10 ≠ y 0 3 := R.1.ne (ly0 (by omega)) (ly0 (by omega)) (by omega)
      obtain ⟨a, b, c, d, sz, f, m1, m2, m3⟩ := R.2.2.2.2.1 k (by omega)
      have no1 : ¬ (y 1 k = y 0 3 ∨ y 1 k = y 0 10) := by
        rintro (z | z)
        · exact R.1.ne (ly1 (by omega)) (ly0 (by omega)) (by omega) z
        · exact R.1.ne (ly1 (by omega)) (ly0 (by omega)) (by omega) z
      have m1' := (g.at m1 no1).ne (e' := .inr (10, [.ref (y 0 10), .int (nI (j + 1) - 1)])) (fun z => no1 (Or.inl z))
      have g3' := g3.set (e' := .inr (10, [.ref (y 0 10), .int (nI (j + 1) - 1)]))
      refine gR_of g3' rfl (gI_of g3' rfl (nN_of (nN_of (isO_of m1' (sR_of (g10.ne n10) (j := j) (nI_pred j) (by omega) (by omega) ?_)))))
      rw [nI_pred] at g3' ⊢
      have hq := R.off (k := k) (m := j) (h' := xh_set (xh_set hj (y 0 3) (.inr (10, [.ref (y 0 10), .int (nI j)]))) (y 0 10) (.inl (E.1 3, 60, .inr (.inr (.inr (.inr (va_up fj j (some (y 1 k))))))))) (fw := va_up fj j (some (y 1 k))) hsz (by omega) (by omega) ((g.tr (xg.set (Or.inl rfl))).tr (xg.set (Or.inr rfl))) (g3'.ne (a := y 0 10) (e' := .inl (E.1 3, 60, .inr (.inr (.inr (.inr (va_up fj j (some (y 1 k)))))))) (fun z => n10 z.symm)) (xh_at.set (g10.ne n10)) (fun a ha => ?_)
      · have h1 := h1 k hk e _ (by rw [show n 2 - 1 = j by omega]; exact hq.1) ((g.tr (xg.set (Or.inl rfl))).tr (xg.set (Or.inr rfl))) hq.2
        exact h1
      · by_cases z : a = j
        · subst z
          rw [va_up_self, if_pos (by omega)]
          unfold pm
          rw [if_neg (by omega), if_pos rfl]
        · rw [va_up_ne _ _ z, hfj a]
          by_cases z2 : k ≤ a ∧ a < j
          · rw [if_pos z2, f4' (a + 1) (by omega), if_pos (by omega), if_pos (by omega)]
            unfold pm
            rw [if_pos z2]
          · rw [if_neg z2, f4' a ha]
            unfold pm
            rw [if_neg z2, if_neg z]
    | succ d ih =>
      intro j hj fj hd h1' h2' g g3 g10 hfj
      refine gI_of g3 rfl ⟨fun z => absurd z (by rw [nI_1]; exact nI_ge (by omega) (by omega)), fun _ => gR_of g3 rfl (gR_of g3 rfl (nN_of ?_))⟩
      have ej : fj (j + 1) = some (y 1 (j + 1)) := by rw [hfj, if_neg (by omega), f4' (j + 1) (by omega), if_pos (by omega)]
      refine aR_of g10 (nI_1 j) (by omega) (by omega) ej (nN_of (nN_of ?_))
      obtain ⟨a, b, c, d', sz, f, m1, m2, m3⟩ := R.2.2.2.2.1 (j + 1) (by omega)
      have no1 : ¬ (y 1 (j + 1) = y 0 3 ∨ y 1 (j + 1) = y 0 10) := by
        rintro (z | z)
        · exact R.1.ne (ly1 (by omega)) (ly0 (by omega)) (by omega) z
        · exact R.1.ne (ly1 (by omega)) (ly0 (by omega)) (by omega) z
      have n10 : y 0 3 ≠ y 0 10 := R.1.ne (ly0 (by omega)) (ly0 (by omega)) (by omega)
      refine isO_of (g.at m1 no1) (sR_of g10 (j := j) rfl (by omega) (by omega) ?_)
      rw [nI_1]
      refine ih (j + 1) _ (va_up fj j (some (y 1 (j + 1)))) (by omega) (by omega) (by omega) (g.tr (xg.set (Or.inr rfl))) (g3.ne n10) g10.set (fun a => ?_)
      by_cases z : a = j
      · subst z
        rw [va_up_self, if_pos ⟨h1', by omega⟩, f4' (a + 1) (by omega), if_pos (by omega)]
      · rw [va_up_ne _ _ z, hfj a]
        by_cases z2 : k ≤ a ∧ a < j
        · rw [if_pos z2, if_pos ⟨z2.1, by omega⟩]
        · rw [if_neg z2, if_neg (by omega)]
  refine ⟨m - k + 1, ?_⟩
  rw [e]
  have f3' := f3
  rw [hm] at f3'
  exact key (m - k) k h fw rfl (Nat.le_refl _) (by omega) xg.rf f3' f4 (fun a => by rw [if_neg (by omega)])
theorem SJ_drop_ok : SJ_drop RX WF := by
  intro E A h x s i kc ks z hR hW hi
  obtain ⟨y, n, cp, rfl, R, hb⟩ := id hR
  have w := hW.w hi R
  have hn := R.2.1.2.2.1.2
  have h6 := R.2.1.2.2.1.1
  have wn := w.mono (i' := i + 1) (u' := 2 * i + 2) (by omega) (by omega)
  obtain ⟨f0, f1, -⟩ := id R.2.2.1
  unfold M_drop M_isMessage
  by_cases q1 : z < 0
  · refine ⟨0, s, by rw [if_pos q1]; rfl, ?_⟩
    exact JZ.sj hb wn (Nat.le_refl _) rfl rfl (fun Q hQ => gR_of f0 rfl (nN_of (gR_of f1 rfl (nN_of (isO_of R.2.2.1.2.2.2.1 (s_takeOff R w.sz (fun _ => ⟨fun _ => hQ h y R rfl xg.rf, fun a e => by cases e⟩) (fun k hk e => absurd q1 (by rw [e]; exact nI_pos (by omega)))))))))
  by_cases q2 : s.1 6 ≤ z
  · refine ⟨0, s, by rw [if_neg q1, if_pos q2]; rfl, ?_⟩
    exact JZ.sj hb wn (Nat.le_refl _) rfl rfl (fun Q hQ => gR_of f0 rfl (nN_of (gR_of f1 rfl (nN_of (isO_of R.2.2.1.2.2.2.1 (s_takeOff R w.sz (fun _ => ⟨fun _ => hQ h y R rfl xg.rf, fun a e => by cases e⟩) (fun k hk e => absurd q2 (by rw [h6, e]; exact nI_ge hk (by omega)))))))))
  rw [h6] at q2
  refine ix3 z (n := n 2) (by omega) (fun z => absurd z q1) (fun _ z => absurd z q2) (fun k hk e => ?_)
  subst e
  refine ⟨1, remS s k (n 2 - 1), ?_, ?_⟩
  · rw [if_neg q1, h6, if_neg q2]
    show (M_remove s (nI k)).bind _ = _
    rw [M_remove_eq h6 (by omega) hk]
    rfl
  · refine JZ.sj (n' := va_up n 2 (n 2 - 1)) hb (wn.off (by omega) (by omega)) (Nat.le_refl _) rfl rfl (fun Q hQ => gR_of f0 rfl (nN_of (gR_of f1 rfl (nN_of (isO_of R.2.2.1.2.2.2.1 (s_takeOff R w.sz (fun q => ?_) (fun k' hk' e h' R' _ g' => ⟨fun e => (by cases e), fun a _ => ?_⟩)))))))
    · rcases q with q | ⟨_, q⟩
      · exact absurd q q1
      · exact absurd q q2
    · have := (nI_eq (by omega) (by omega)).mp e
      subst this
      exact hQ h' _ R' rfl g'
end DROP
