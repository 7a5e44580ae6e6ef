/-! again, inject -/
section AGAIN
variable {E : Ev} {A S : Nat → Prop} {h h' : Hp} {y y' : Nat → Nat → Nat} {s s' : MS} {n cp n' cp' : Nat → Nat} {i u k m kc ks z : Nat} {r : Int32}
theorem s_copy {q b src : Nat} {o0 o1 o2 o3 sz : Int32} {f g : Nat → Int32} {Q : Hp → Prop} (m1 : xh_at h q (.inr (5, mg o0 o1 o2 o3 sz b))) (m2 : xh_at h b (.inl (E.1 0, 64, .inl f))) (ms : xh_at h src (.inl (E.1 0, 64, .inl g))) (hz : z ≤ 64) (hQ : ∀ h' f', xh_at h' q (.inr (5, mg o0 o1 o2 o3 (nI z) b)) → xh_at h' b (.inl (E.1 0, 64, .inl f')) → (∀ a, a < z → f' a = g a) → xg (fun x => x = q ∨ x = b) h h' → Q h') : m_X4_copyBytes E q (some src) (nI z) h kc ks Q := by
  intro x2 e2
  have e : x2 = nI z := by
    rw [e2, if_neg (show ¬ (64 : Int32) < nI z from nI_nlt (a := 64) hz (by omega))]
  subst e
  have nb : b ≠ q := m2.neq m1 (by intro w; cases w)
  have ns : src ≠ q := ms.neq m1 (by intro w; cases w)
  refine pV_of m1 (by show 4 < 6; decide) (gR_of m1.set rfl (gI_of m1.set rfl (nN_of (nN_of ⟨64, 64, g, f, ms.ne ns, m2.ne nb, by decide, by decide, nI_pos (by omega), ?_, ?_, fun h1 e1 => ?_⟩))))
  · rw [nI_clamp (by omega)]; show 0 + z ≤ 64; omega
  · rw [nI_clamp (by omega)]; show 0 + z ≤ 64; omega
  · rw [e1]
    refine hQ _ _ (m1.set.ne (fun w => nb w.symm)) (xh_at.set (m2.ne nb)) (fun a ha => ?_) ((xg.set (Or.inl rfl)).tr (xg.set (Or.inr rfl)))
    rw [nI_clamp (by omega)]
    show va_cpy g f 0 0 z a = g a
    unfold va_cpy
    rw [if_pos (by omega)]
    exact congrArg g (by omega)
theorem ag_loop {n2 : Nat} (h6 : s.1 6 = nI n2) (hn : n2 < 60) (hk : k < n2) : ∀ d j m B, 64 - j = d → j ≤ 64 → d < m → (∀ a, a < 64 * n2 → B a = s.2.2.1 12 a) → (∀ a, a < j → B (64 * n2 + a) = s.2.2.1 12 (64 * k + a)) → (∀ a, a < 3840 → okB (B a)) → ∃ B', M_again_L21 m (sB s B) (nI k) (nI j) = some (1, lieA s (s.2.2.1 7 k) (s.2.2.1 8 k) (s.2.2.1 9 k) (s.2.2.1 10 k) (s.2.2.1 11 k) B') ∧ (∀ a, a < 64 * n2 → B' a = s.2.2.1 12 a) ∧ (∀ a, a < 64 → B' (64 * n2 + a) = s.2.2.1 12 (64 * k + a)) ∧ ∀ a, a < 3840 → okB (B' a) := by
  intro d
  induction d with
  | zero =>
    intro j m B hd hj hm h1 h2 h3
    obtain ⟨m, rfl⟩ : ∃ m', m = m' + 1 := ⟨m - 1, by omega⟩
    have : j = 64 := by omega
    subst this
    refine ⟨B, ?_, h1, h2, h3⟩
    rw [M_again_L21, if_pos (show (64 : Int32) ≤ nI 64 by decide), if_neg (nI_in (by omega) (by omega)), if_neg (nI_in (by omega) (by omega)), if_neg (nI_in (by omega) (by omega)), if_neg (nI_in (by omega) (by omega)), if_neg (nI_in (by omega) (by omega)), nI_clamp (by omega), M_lie_eq h6 hn]
    rfl
  | succ d ih =>
    intro j m B hd hj hm h1 h2 h3
    obtain ⟨m, rfl⟩ : ∃ m', m = m' + 1 := ⟨m - 1, by omega⟩
    have e1 : (64 : Int32) * nI k + nI j = nI (64 * k + j) := by rw [show (64 : Int32) * nI k = nI (64 * k) from pk_mul 64 _, nI_add]
    have e2 : (64 : Int32) * nI n2 + nI j = nI (64 * n2 + j) := by rw [show (64 : Int32) * nI n2 = nI (64 * n2) from pk_mul 64 _, nI_add]
    have h6' : (sB s B).1 6 = nI n2 := h6
    rw [M_again_L21, if_neg (show ¬ (64 : Int32) ≤ nI j from nI_ge (b := 64) (by omega) (by omega)), h6', e1, e2, if_neg (nI_in (by omega) (by omega)), if_neg (nI_in (by omega) (by omega)), nI_clamp (by omega), nI_clamp (by omega), nI_1, lt1_e, sB_A]
    have e3 : (sB s B).2.2.1 12 (64 * k + j) = s.2.2.1 12 (64 * k + j) := by
      show B (64 * k + j) = _
      exact h1 _ (by omega)
    rw [e3]
    refine ih (j + 1) m _ (by omega) (by omega) (by omega) (fun a ha => ?_) (fun a ha => ?_) (fun a ha => ?_)
    · rw [pk_un (by omega)]; exact h1 a ha
    · by_cases w : a = j
      · subst w; rw [pk_us]
      · rw [pk_un (by omega)]; exact h2 a (by omega)
    · by_cases w : a = 64 * n2 + j
      · subst w; rw [pk_us, ← h1 _ (by omega)]; exact h3 _ (by omega)
      · rw [pk_un w]; exact h3 a ha
theorem sB_id (s : MS) : sB s (s.2.2.1 12) = s := by
  have : va_up s.2.2.1 12 (s.2.2.1 12) = s.2.2.1 := by
    funext a
    by_cases w : a = 12
    · subst w; exact va_up_self _ _ _
    · exact va_up_ne _ _ w
  show (s.1, s.2.1, va_up s.2.2.1 12 (s.2.2.1 12), s.2.2.2) = s
  rw [this]
theorem fA_no (R : RXo E A h y s n cp) {q b a j : Nat} (hq : qb h y n q b) (hl : lyv n cp a j) (h0 : ¬ (a = 0 ∧ (j = 3 ∨ j = 10))) (h1 : ¬ ((a = 1 ∨ a = 2) ∧ j = n 2)) : ¬ fA y q b (y a j) := by
  have hin := R.lyin hl
  rintro (e | e | e | e)
  · exact R.1.ne hl (ly0 (by omega)) (by omega) e
  · exact R.1.ne hl (ly0 (by omega)) (by omega) e
  · rcases hq with ⟨w, rfl, rfl⟩ | ⟨w, w1, w2, w3⟩
    · exact R.1.ne hl (ly1 w) (by omega) e
    · exact w1 (by rw [← e]; exact hin)
  · rcases hq with ⟨w, rfl, rfl⟩ | ⟨w, w1, w2, w3⟩
    · exact R.1.ne hl (ly2 w) (by omega) e
    · exact w2 (by rw [← e]; exact hin)
theorem n9_F (hn : n 2 ≤ n 9 ∧ n 9 ≤ 60) (h60 : n 2 < 60) : Fc (n9 n) ≤ Fc n ∧ Fs (n9 n) cp ≤ Fs n cp ∧ (n 2 = n 9 → Fc n = Fc (n9 n) + 2 ∧ Fs n cp = Fs (n9 n) cp + 70) := by
  have e4 : n9 n 4 = n 4 := rfl
  have e9 : n9 n 9 = if n 2 < n 9 then n 9 else n 9 + 1 := rfl
  unfold Fc Fs
  rw [e4, e9]
  by_cases w : n 2 < n 9
  · rw [if_pos w]
    exact ⟨Nat.le_refl _, Nat.le_refl _, fun e => by omega⟩
  · rw [if_neg w]
    exact ⟨by omega, by omega, fun _ => ⟨by omega, by omega⟩⟩
/-- a message more, its bytes copied -/
theorem msg_copy (R : RXo E A h y s n cp) (hsz : ∀ j, j < 60 → s.2.2.1 11 j ≤ 64) {h2 : Hp} {q b src : Nat} {o0 o1 o2 o3 sz : Int32} {f g B : Nat → Int32} {fw : Nat → Option Nat} {Q : Hp → Prop} (h60 : n 2 < 60) (hq : qb h y n q b) (m1 : xh_at h2 q (.inr (5, mg o0 o1 o2 o3 sz b))) (m2 : xh_at h2 b (.inl (E.1 0, 64, .inl f))) (m3 : xh_at h2 (y 0 3) (.inr (10, [.ref (y 0 10), .int (nI (n 2 + 1))]))) (m4 : xh_at h2 (y 0 10) (.inl (E.1 3, 60, .inr (.inr (.inr (.inr fw)))))) (m5 : ∀ k, k < 60 → fw k = if k < n9 n 9 then some (yM y n q b 1 k) else none) (gA : xg (fA y q b) h h2) (ms : xh_at h2 src (.inl (E.1 0, 64, .inl g))) (hz : z ≤ 64)
    (hB : ∀ a, a < z → g a = B (64 * n 2 + a)) (hB0 : ∀ a, a < 64 * n 2 → B a = s.2.2.1 12 a) (hQ : ∀ h', RXo E A h' (yM y n q b) (lieA s o0 o1 o2 o3 (nI z) B) (n9 n) cp → xg A h h' → xg (fM y q b) h h' → Q h') : m_X4_copyBytes E q (some src) (nI z) h2 kc ks Q := by
  obtain ⟨f0, f1, f2, f3, f4, f5, f6, f7, ⟨x8, y8, z8, f8⟩, -⟩ := id R.2.2.1
  refine s_copy m1 m2 ms hz (fun h3 f' p1 p2 p3 p4 => ?_)
  have g3 : xg (fM y q b) h h3 := (fA.m gA).tr (p4.mono (fun x _ w => w.elim (fun w => Or.inr (Or.inr (Or.inr (Or.inl w)))) (fun w => Or.inr (Or.inr (Or.inr (Or.inr w))))))
  have n3 : y 0 3 ≠ q ∧ y 0 3 ≠ b := ⟨m3.neq m1 (by intro w; injection w with w; injection w with w; omega), m3.neq m2 (by intro w; cases w)⟩
  have n10 : y 0 10 ≠ q ∧ y 0 10 ≠ b := ⟨m4.neq m1 (by intro w; cases w), m4.neq m2 (by intro w; injection w with w; injection w with w1 w2; injection w2 with w2 w3; cases w3)⟩
  have l6 := gA.at f8 (fA_no R hq (ly0 (by omega)) (by omega) (by omega))
  have n6 : y 0 6 ≠ q ∧ y 0 6 ≠ b := ⟨l6.neq m1 (by intro w; injection w with w; injection w with w; omega), l6.neq m2 (by intro w; cases w)⟩
  refine hQ h3 (R.msg h60 hq hsz p1 p2 (p4.at m3 (fun w => w.elim n3.1 n3.2)) (p4.at m4 (fun w => w.elim n10.1 n10.2)) m5 ⟨_, _, _, p4.at l6 (fun w => w.elim n6.1 n6.2)⟩ g3 (fun a ha => ?_) hB0) (fM.toA R hq g3) g3
  rw [nI_clamp (by omega)] at ha
  rw [p3 a ha, hB a ha]
theorem SJ_again_ok : SJ_again RX WF := by
  intro E A h x s i kc ks z hR hW hi
  obtain ⟨y, n, cp, rfl, R, hb⟩ := id hR
  have w := hW.w hi R
  have hn := R.2.1.2.2.1
  obtain ⟨f0, f1, -⟩ := id R.2.2.1
  have wn := w.mono (i' := i + 1) (u' := 2 * i + 2) (by omega) (by omega)
  by_cases q : z < 0 ∨ (¬ z < 0 ∧ nI (n 2) ≤ z)
  · refine ⟨0, s, ?_, ?_⟩
    · unfold M_again M_isMessage
      generalize mfu = fu
      rcases q with q | ⟨q, q2⟩
      · rw [if_pos q, Option.bind_some, lt1_e, lt1_e, if_pos rfl]
      · rw [if_neg q, hn.1, if_pos q2, Option.bind_some, lt1_e, lt1_e, if_pos rfl]
    · have := JP.same (E := E) (A := A) (h := h) (y := y) (n := n) (cp := cp) (r := (0 : Int32)) (X := fun kc ks Q => m_X11_again E (y 0 0) z h kc ks Q) R wn (fun kc ks Q hQ => gR_of f0 rfl (nN_of (gR_of f1 rfl (nN_of (isO_of R.2.2.1.2.2.2.1 (s_wget R (fun _ => ⟨fun _ => hQ, fun a e => (by cases e)⟩) (fun k hk e => ?_)))))))
      · exact this.sj hb hi (Nat.le_refl _)
      · rw [e] at q
        rcases q with q | ⟨_, q⟩
        · exact absurd q (nI_pos (by omega))
        · exact absurd q (nI_ge hk (by omega))
  refine ix3 z (n := n 2) (by omega) (fun z => absurd (Or.inl z) q) (fun a b => absurd (Or.inr ⟨a, b⟩) q) (fun k hk e => ?_)
  subst e
  have e1 : M_isMessage s (nI k) = some (1, s) := by
    unfold M_isMessage
    rw [if_neg (nI_pos (by omega)), hn.1, if_neg (nI_ge hk (by omega))]
  obtain ⟨a, b, c, d, szv, f, m1, m2, m3⟩ := R.2.2.2.2.1 k (by omega)
  obtain ⟨q1, q2, q3, q4, q5, q6⟩ := m3 hk
  obtain ⟨z0, hz0, ez0⟩ := w.2.2.2.1 k (by omega)
  subst q1 q2 q3 q4
  rw [q5, ez0] at m1
  have nq : ¬ (nI k < 0 ∨ (¬ nI k < 0 ∧ nI (n 2) ≤ nI k)) := q
  have pre : ∀ (kc ks : Nat) (Q : Int32 → Hp → Prop), m_X9_add E (y 0 3) (s.2.2.1 7 k) (s.2.2.1 8 k) (s.2.2.1 9 k) (s.2.2.1 10 k) h kc ks (fun r30 h31 => brN r30 (Q 0 h31) (fun a34 => gR h31 (y 1 k) 5 5 fun r36 => gI h31 (y 1 k) 5 4 fun x38 => isO h31 a34 5 (m_X4_copyBytes E a34 r36 x38 h31 0 0 (fun h41 => Q 1 h41)))) → m_X11_again E (y 0 0) (nI k) h kc ks Q := by
    intro kc ks Q hm
    refine gR_of f0 rfl (nN_of (gR_of f1 rfl (nN_of (isO_of R.2.2.1.2.2.2.1 (s_wget R (fun q => absurd q nq) (fun j hj e => ⟨fun e => (by cases e), fun a ea => ?_⟩))))))
    have := (nI_eq (by omega) (by omega)).mp e
    subst this
    cases ea
    exact gR_of f0 rfl (nN_of (gR_of f1 rfl (gI_of m1 rfl (gI_of m1 rfl (gI_of m1 rfl (gI_of m1 rfl (nN_of (isO_of R.2.2.1.2.2.2.1 (cK_of kc ks (Nat.le_refl _) (Nat.le_refl _) hm)))))))))
  by_cases h60 : n 2 = 60
  · refine ⟨0, s, ?_, ?_⟩
    · unfold M_again
      generalize mfu = fu
      rw [e1, Option.bind_some, lt1_e, lt1_e, if_neg (show ¬ (1 : Int32) = 0 by decide), if_pos (by rw [hn.1, h60]; rfl)]
    · have := JP.same (E := E) (A := A) (h := h) (y := y) (n := n) (cp := cp) (r := (0 : Int32)) (X := fun kc ks Q => m_X11_again E (y 0 0) (nI k) h kc ks Q) R wn (fun kc ks Q hQ => pre kc ks Q (s_wadd R (fun _ _ => by omega) (fun _ => ⟨fun _ => hQ, fun a e => (by cases e)⟩) (fun _ _ _ _ _ _ h _ => by omega)))
      exact this.sj hb hi (Nat.le_refl _)
  have h60' : n 2 < 60 := by omega
  obtain ⟨B', eB, B1, B2, B3⟩ := ag_loop (s := s) hn.1 h60' hk 64 0 mfu (s.2.2.1 12) (by omega) (by omega) (by unfold mfu; omega) (fun _ _ => rfl) (fun a ha => by omega) w.2.1
  rw [sB_id, nI_0] at eB
  refine ⟨1, lieA s (s.2.2.1 7 k) (s.2.2.1 8 k) (s.2.2.1 9 k) (s.2.2.1 10 k) (s.2.2.1 11 k) B', ?_, ?_⟩
  · rw [← eB]
    unfold M_again
    generalize mfu = fu
    rw [e1, Option.bind_some, lt1_e, lt1_e, if_neg (show ¬ (1 : Int32) = 0 by decide), if_neg (by rw [hn.1]; exact fun e => h60 ((nI_eq (b := 60) (by omega) (by omega)).mp e))]
  obtain ⟨ad1, ad2⟩ := w.2.2.2.2.1 k hk
  obtain ⟨F1, F2, F3⟩ := n9_F (cp := cp) hn.2 h60'
  have wL : W2 (i + 1) (2 * i + 2) (lieA s (s.2.2.1 7 k) (s.2.2.1 8 k) (s.2.2.1 9 k) (s.2.2.1 10 k) (s.2.2.1 11 k) B') (n9 n) := by
    rw [ez0]
    exact wn.lie h60' ad1 ad2 hz0 B3
  refine JP.sj (y := y) (X := fun kc ks Q => m_X11_again E (y 0 0) (nI k) h kc ks Q) hb hi ⟨n9 n, cp, wL, F1, F2, fun kc ks k1 k2 Q hQ => pre kc ks Q (s_wadd R (fun e _ => ?_) (fun e => absurd e h60) (fun h2 q b sz f2 fw _ hq m1' m2' m3' m4' m5' gA => ⟨fun e => (by cases e), fun a ea => ?_⟩))⟩ (Nat.le_refl _)
  · obtain ⟨f1, f2⟩ := F3 e
    omega
  · cases ea
    have l1 := gA.at m1 (fA_no R hq (ly1 (by omega)) (by omega) (by omega))
    have l2 := gA.at m2 (fA_no R hq (ly2 (by omega)) (by omega) (by omega))
    refine gR_of l1 rfl (gI_of l1 rfl (isO_of m1' (msg_copy (B := B') R w.sz h60' hq m1' m2' m3' m4' m5' gA l2 hz0 (fun a ha => ?_) B1 (fun h3 R3 g3 _ => ?_))))
    · rw [q6 a (by rw [q5, ez0, nI_clamp (by omega)]; exact ha), B2 a (by omega)]
    · rw [← ez0] at R3
      exact hQ h3 _ R3 rfl g3
theorem in_loop {n2 n8 : Nat} {z0 z1 z2 z3 : Int32} (h6 : s.1 6 = nI n2) (hn : n2 < 60) (h20 : s.1 20 = nI n8) (h8 : n8 ≤ 64) (ho : ∀ a, a < 64 → okB (s.2.2.1 19 a)) : ∀ d j m B, n8 - j = d → j ≤ n8 → d < m → (∀ a, a < 64 * n2 → B a = s.2.2.1 12 a) → (∀ a, a < j → B (64 * n2 + a) = s.2.2.1 19 a) → (∀ a, a < 3840 → okB (B a)) → ∃ B', M_inject_L40 m (sB s B) z0 z1 z2 z3 (nI j) = some (1, mI (lieA s z0 z1 z2 z3 (nI n8) B') 20 0) ∧ (∀ a, a < 64 * n2 → B' a = s.2.2.1 12 a) ∧ (∀ a, a < n8 → B' (64 * n2 + a) = s.2.2.1 19 a) ∧ ∀ a, a < 3840 → okB (B' a) := by
  intro d
  induction d with
  | zero =>
    intro j m B hd hj hm h1 h2 h3
    obtain ⟨m, rfl⟩ : ∃ m', m = m' + 1 := ⟨m - 1, by omega⟩
    have : j = n8 := by omega
    subst this
    refine ⟨B, ?_, h1, h2, h3⟩
    have h20' : (sB s B).1 20 = nI j := h20
    rw [M_inject_L40, h20', if_pos (Int32.le_refl _), M_lie_eq h6 hn]
    rfl
  | succ d ih =>
    intro j m B hd hj hm h1 h2 h3
    obtain ⟨m, rfl⟩ : ∃ m', m = m' + 1 := ⟨m - 1, by omega⟩
    have e2 : (64 : Int32) * nI n2 + nI j = nI (64 * n2 + j) := by rw [show (64 : Int32) * nI n2 = nI (64 * n2) from pk_mul 64 _, nI_add]
    have h6' : (sB s B).1 6 = nI n2 := h6
    have h20' : (sB s B).1 20 = nI n8 := h20
    rw [M_inject_L40, h20', if_neg (nI_ge (by omega) (by omega)), h6', e2, if_neg (nI_in (by omega) (by omega)), if_neg (nI_in (by omega) (by omega)), nI_clamp (by omega), nI_clamp (by omega), nI_1, lt1_e, sB_A]
    have e3 : (sB s B).2.2.1 19 j = s.2.2.1 19 j := by
      show va_up s.2.2.1 12 B 19 j = _
      rw [va_up_ne _ _ (by omega)]
    rw [e3]
    refine ih (j + 1) m _ (by omega) (by omega) (by omega) (fun a ha => ?_) (fun a ha => ?_) (fun a ha => ?_)
    · rw [pk_un (by omega)]; exact h1 a ha
    · by_cases w : a = j
      · subst w; rw [pk_us]
      · rw [pk_un (by omega)]; exact h2 a (by omega)
    · by_cases w : a = 64 * n2 + j
      · subst w; rw [pk_us]; exact ho j (by omega)
      · rw [pk_un w]; exact h3 a ha
theorem M_isThere_eq (R : RXn s n cp) (a b : Int32) : (Ad n a b → M_isThere s a b = some (1, s)) ∧ (¬ Ad n a b → M_isThere s a b = some (0, s)) := by
  have hn0 := R.1.2
  have hn1 := R.2.1.2
  unfold M_isThere M_isThere_L44
  rw [R.1.1, R.2.1.1]
  refine ⟨fun q => ?_, fun q => ?_⟩
  · rcases q with ⟨rfl, c, hc, rfl⟩ | ⟨rfl, t, ht, rfl⟩ | ⟨rfl, rfl⟩
    · rw [if_neg (nI_pos (by omega)), if_pos rfl, if_neg (nI_ge hc (by omega))]
    · rw [if_neg (nI_pos (by omega)), if_neg (by decide), if_pos rfl, if_neg (nI_ge ht (by omega))]
    · rw [if_neg (by decide), if_neg (by decide), if_neg (by decide), if_pos rfl, if_pos rfl]
  · by_cases q1 : b < 0
    · rw [if_pos q1]
    rw [if_neg q1]
    by_cases a0 : a = 0
    · rw [if_pos a0]
      by_cases q2 : nI (n 0) ≤ b
      · rw [if_pos q2]
      · exact ix3 b (n := n 0) (by omega) (fun z => absurd z q1) (fun _ z => absurd z q2) (fun j hj e => absurd (Or.inl ⟨a0, j, hj, e⟩) q)
    rw [if_neg a0]
    by_cases a1 : a = 1
    · rw [if_pos a1]
      by_cases q2 : nI (n 1) ≤ b
      · rw [if_pos q2]
      · exact ix3 b (n := n 1) (by omega) (fun z => absurd z q1) (fun _ z => absurd z q2) (fun j hj e => absurd (Or.inr (Or.inl ⟨a1, j, hj, e⟩)) q)
    rw [if_neg a1]
    by_cases a2 : a = 2
    · rw [if_pos a2]
      by_cases b0 : b = 0
      · exact absurd (Or.inr (Or.inr ⟨a2, b0⟩)) q
      · rw [if_neg b0]
    · rw [if_neg a2]
theorem s_some {a b : Int32} {Q : Int32 → Hp → Prop} (R : RXo E A h y s n cp) (h1 : Ad n a b → Q 1 h) (h0 : ¬ Ad n a b → Q 0 h) : m_X10_isSomebody E (y 0 1) a b h kc ks Q := by
  obtain ⟨f0, f1, -⟩ := id R.2.2.1
  have hn0 := R.2.1.1.2
  have hn1 := R.2.1.2.1.2
  refine ⟨fun a0 => isO_of f1 (s_isCard R (fun q => ⟨Or.inl rfl, h0 (fun w => ?_)⟩) (fun j hj e => ⟨Or.inr rfl, h1 (Or.inl ⟨a0, j, hj, e⟩)⟩)), fun a0 => ⟨fun a1 => isO_of f1 (s_isTerminal R (fun q => ⟨Or.inl rfl, h0 (fun w => ?_)⟩) (fun j hj e => ⟨Or.inr rfl, h1 (Or.inr (Or.inl ⟨a1, j, hj, e⟩))⟩)), fun a1 => ⟨fun a2 => ⟨fun b0 => h1 (Or.inr (Or.inr ⟨a2, b0⟩)), fun b0 => h0 (fun w => ?_)⟩, fun a2 => h0 (fun w => ?_)⟩⟩⟩
  · rcases w with ⟨_, c, hc, rfl⟩ | ⟨e, _⟩ | ⟨e, _⟩
    · rcases q with q | q
      · exact nI_pos (by omega) q
      · exact nI_ge hc (by omega) q
    · rw [a0] at e; exact absurd e (by decide)
    · rw [a0] at e; exact absurd e (by decide)
  · rcases w with ⟨e, _⟩ | ⟨_, c, hc, rfl⟩ | ⟨e, _⟩
    · exact a0 e
    · rcases q with q | q
      · exact nI_pos (by omega) q
      · exact nI_ge hc (by omega) q
    · rw [a1] at e; exact absurd e (by decide)
  · rcases w with ⟨e, _⟩ | ⟨e, _⟩ | ⟨_, e⟩
    · exact a0 e
    · exact a1 e
    · exact b0 e
  · rcases w with ⟨e, _⟩ | ⟨e, _⟩ | ⟨e, _⟩
    · exact a0 e
    · exact a1 e
    · exact a2 e
/-- the stranger's row is empty -/
theorem RXo.n8 (R : RXo E A h y s n cp) : RXo E A (xh_set h (y 0 0) (.inr (12, [.ref (y 0 1), .ref (y 0 2), .ref (y 0 9), .int 0]))) y (mI s 20 0) (va_up n 8 0) cp ∧ xg A h (xh_set h (y 0 0) (.inr (12, [.ref (y 0 1), .ref (y 0 2), .ref (y 0 9), .int 0]))) := by
  obtain ⟨Ra, Rn, Rf, Rl, Rm, Rc, Rt, Rs, Rp⟩ := id R
  obtain ⟨f0, f1, f2, f3, f4, f5, f6, f7, f8, f9, f10, f11⟩ := Rf
  have g : xg (fun a => a = y 0 0) h (xh_set h (y 0 0) (.inr (12, [.ref (y 0 1), .ref (y 0 2), .ref (y 0 9), .int 0]))) := xg.set rfl
  have no : ∀ {a j}, lyv n cp a j → ¬ (a = 0 ∧ j = 0) → ¬ y a j = y 0 0 := fun hl hn => Ra.ne hl (ly0 (by omega)) (by omega)
  have hP : ∀ a fs, xh_at h a (.inr (6, fs)) → ¬ a = y 0 0 := nP_obj f0 (by decide)
  have ho : ∀ a, xo_at h a → xo_at (xh_set h (y 0 0) (.inr (12, [.ref (y 0 1), .ref (y 0 2), .ref (y 0 9), .int 0]))) a := xo_set f0 (fun _ => ⟨12, _, by omega, rfl⟩)
  have k0 : ∀ {j e}, j ≤ 18 → j ≠ 0 → xh_at h (y 0 j) e → xh_at (xh_set h (y 0 0) (.inr (12, [.ref (y 0 1), .ref (y 0 2), .ref (y 0 9), .int 0]))) (y 0 j) e := fun h1 h2 hx => g.at hx (no (ly0 h1) (by omega))
  refine ⟨⟨Ra.g g, ?_, ?_, Rl.g g ho (fun k h1 h2 => no (ly0 h2) (by omega)) (fun k h1 h2 h3 => no (ly15 h1 h2 h3) (by omega)) (fun t ht => no (ly7 ht) (by omega)) (fun t ht hc' => no (ly8 ht hc') (by omega)), Rm.g g (fun k hk => no (ly1 hk) (by omega)) (fun k hk => no (ly2 hk) (by omega)), Rc.g g (fun k hk => no (ly3 hk) (by omega)) (fun k hk => no (ly9 hk) (by omega)) hP, Rt.g g (fun k hk => no (ly5 hk) (by omega)) hP, Rs.g g (fun k hk => no (ly10 hk) (by omega)) (fun k hk => no (ly11 hk) (by omega)), Rp.g g hP⟩, xg.set (Ra.2.1 0 0 (ly0 (by omega)))⟩
  · obtain ⟨r0, r1, r2, r3, r4, r5, r6, r7, r8, r9, r10⟩ := Rn
    exact ⟨r0, r1, r2, r3, r4, r5, r6, r7, ⟨rfl, by show 0 ≤ 64; omega⟩, r9, r10⟩
  · obtain ⟨fw, f4, f4'⟩ := f4
    obtain ⟨sz, so, nu, f5⟩ := f5
    obtain ⟨g6, f6⟩ := f6
    obtain ⟨x7, y7, z7, f7⟩ := f7
    obtain ⟨x8, y8, z8, f8⟩ := f8
    obtain ⟨g9, f9⟩ := f9
    obtain ⟨g10, f10⟩ := f10
    obtain ⟨g11, f11, f11'⟩ := f11
    exact ⟨f0.set, k0 (by omega) (by omega) f1, k0 (by omega) (by omega) f2, k0 (by omega) (by omega) f3, ⟨fw, k0 (by omega) (by omega) f4, f4'⟩, ⟨sz, so, nu, k0 (by omega) (by omega) f5⟩, ⟨g6, k0 (by omega) (by omega) f6⟩, ⟨x7, y7, z7, k0 (by omega) (by omega) f7⟩, ⟨x8, y8, z8, k0 (by omega) (by omega) f8⟩, ⟨g9, k0 (by omega) (by omega) f9⟩, ⟨g10, k0 (by omega) (by omega) f10⟩, ⟨g11, k0 (by omega) (by omega) f11, fun k hk => absurd hk (Nat.not_lt_zero _)⟩⟩
theorem W2.n8 (w : W2 i u s n) : W2 i u (mI s 20 0) (va_up n 8 0) := by
  obtain ⟨⟨c0, c1, c2, c3, c4, c5, c6, c7, c8⟩, w⟩ := w
  exact ⟨⟨c0, c1, c2, c3, c4, c5, c6, c7, ⟨rfl, by show 0 ≤ 64; omega⟩⟩, w⟩
theorem SJ_inject_ok : SJ_inject RX WF := by
  intro E A h x s i kc ks z0 z1 z2 z3 hR hW hi
  obtain ⟨y, n, cp, rfl, R, hb⟩ := id hR
  have w := hW.w hi R
  have hn := R.2.1.2.2.1
  have hn8 := R.2.1.2.2.2.2.2.2.2.2.1
  obtain ⟨f0, f1, -⟩ := id R.2.2.1
  have wn := w.mono (i' := i + 1) (u' := 2 * i + 2) (by omega) (by omega)
  obtain ⟨t1, t0⟩ := M_isThere_eq R.2.1 z0 z1
  obtain ⟨v1, v0⟩ := M_isThere_eq R.2.1 z2 z3
  have stay : M_inject s z0 z1 z2 z3 = some (0, s) → (∀ (kc ks : Nat) (Q : Int32 → Hp → Prop), Q 0 h → m_X11_inject E (y 0 0) z0 z1 z2 z3 h kc ks Q) → ∃ r s', M_inject s z0 z1 z2 z3 = some (r, s') ∧ WF (i + 1) s' ∧ cK kc ks fun mc ms kc1 ks1 => ∀ Q : Int32 → Hp → Prop, (∀ h', RX E A h' (y 0 0) s' (i + 1) kc1 ks1 → xg A h h' → Q r h') → m_X11_inject E (y 0 0) z0 z1 z2 z3 h mc ms Q := by
    intro e hX
    have := JP.same (E := E) (A := A) (h := h) (y := y) (n := n) (cp := cp) (r := (0 : Int32)) (X := fun kc ks Q => m_X11_inject E (y 0 0) z0 z1 z2 z3 h kc ks Q) R wn hX
    exact ⟨0, s, e, this.sj hb hi (Nat.le_refl _)⟩
  have M0 : ∀ (P : Option (Int32 × MS) → Prop), (¬ Ad n z0 z1 → P (some (0, s))) → (Ad n z0 z1 → ¬ Ad n z2 z3 → P (some (0, s))) → (Ad n z0 z1 → Ad n z2 z3 → P (if s.1 20 = 0 then some (0, s) else if s.1 6 = 60 then some (0, s) else M_inject_L40 mfu s z0 z1 z2 z3 0)) → P (M_inject s z0 z1 z2 z3) := by
    intro P p1 p2 p3
    unfold M_inject
    generalize mfu = fu at p3 ⊢
    by_cases a1 : Ad n z0 z1
    · rw [t1 a1, Option.bind_some, lt1_e, lt1_e, if_neg (show ¬ (1 : Int32) = 0 by decide)]
      by_cases a2 : Ad n z2 z3
      · rw [v1 a2, Option.bind_some, lt1_e, lt1_e, if_neg (show ¬ (1 : Int32) = 0 by decide)]
        exact p3 a1 a2
      · rw [v0 a2, Option.bind_some, lt1_e, lt1_e, if_pos rfl]
        exact p2 a1 a2
    · rw [t0 a1, Option.bind_some, lt1_e, lt1_e, if_pos rfl]
      exact p1 a1
  have e0 : ∀ {P : Prop}, (nI (n 8) = 0 → P) → (¬ nI (n 8) = 0 → P) → P := fun h1 h2 => by
    by_cases w : nI (n 8) = 0
    · exact h1 w
    · exact h2 w
  by_cases q8 : n 8 = 0
  · refine stay (M0 (fun o => o = some (0, s)) (fun _ => rfl) (fun _ _ => rfl) (fun _ _ => by rw [if_pos (by rw [hn8.1, q8]; rfl)])) (fun kc ks Q hQ => gI_of f0 rfl ⟨fun _ => hQ, fun z => absurd (by rw [q8]; rfl) z⟩)
  have q8' : ¬ nI (n 8) = 0 := nI_ne0 (by omega) (by omega)
  by_cases a1 : Ad n z0 z1
  rotate_left
  · refine stay (M0 (fun o => o = some (0, s)) (fun _ => rfl) (fun _ _ => rfl) (fun a _ => absurd a a1)) (fun kc ks Q hQ => gI_of f0 rfl ⟨fun z => absurd z q8', fun _ => gR_of f0 rfl (nN_of (isO_of f1 (s_some R (fun a => absurd a a1) (fun _ => ⟨fun _ => hQ, fun z => absurd rfl z⟩))))⟩)
  by_cases a2 : Ad n z2 z3
  rotate_left
  · refine stay (M0 (fun o => o = some (0, s)) (fun _ => rfl) (fun _ _ => rfl) (fun _ a => absurd a a2)) (fun kc ks Q hQ => gI_of f0 rfl ⟨fun z => absurd z q8', fun _ => gR_of f0 rfl (nN_of (isO_of f1 (s_some R (fun _ => ⟨fun z => absurd z (by decide), fun _ => gR_of f0 rfl (nN_of (isO_of f1 (s_some R (fun a => absurd a a2) (fun _ => ⟨fun _ => hQ, fun z => absurd rfl z⟩))))⟩) (fun a => absurd a1 a))))⟩)
  have pre : ∀ (kc ks : Nat) (Q : Int32 → Hp → Prop), m_X9_add E (y 0 3) z0 z1 z2 z3 h kc ks (fun r28 h29 => brN r28 (Q 0 h29) (fun a32 => gR h29 (y 0 0) 12 2 fun r34 => gI h29 (y 0 0) 12 3 fun x36 => isO h29 a32 5 (m_X4_copyBytes E a32 r34 x36 h29 0 0 (fun h39 => pV h39 (y 0 0) 12 3 (.int 0) fun h41 => Q 1 h41)))) → m_X11_inject E (y 0 0) z0 z1 z2 z3 h kc ks Q := fun kc ks Q hm => gI_of f0 rfl ⟨fun z => absurd z q8', fun _ => gR_of f0 rfl (nN_of (isO_of f1 (s_some R (fun _ => ⟨fun z => absurd z (by decide), fun _ => gR_of f0 rfl (nN_of (isO_of f1 (s_some R (fun _ => ⟨fun z => absurd z (by decide), fun _ => gR_of f0 rfl (nN_of (gR_of f1 rfl (nN_of (isO_of R.2.2.1.2.2.2.1 (cK_of kc ks (Nat.le_refl _) (Nat.le_refl _) hm)))))⟩) (fun a => absurd a2 a))))⟩) (fun a => absurd a1 a))))⟩
  by_cases h60 : n 2 = 60
  · refine stay (M0 (fun o => o = some (0, s)) (fun _ => rfl) (fun _ _ => rfl) (fun _ _ => by rw [if_neg (by rw [hn8.1]; exact q8'), if_pos (by rw [hn.1, h60]; rfl)])) (fun kc ks Q hQ => pre kc ks Q (s_wadd R (fun _ _ => by omega) (fun _ => ⟨fun _ => hQ, fun a e => (by cases e)⟩) (fun _ _ _ _ _ _ h _ => by omega)))
  have h60' : n 2 < 60 := by omega
  obtain ⟨B', eB, B1, B2, B3⟩ := in_loop (s := s) (z0 := z0) (z1 := z1) (z2 := z2) (z3 := z3) hn.1 h60' hn8.1 hn8.2 w.2.2.1 (n 8) 0 mfu (s.2.2.1 12) (by omega) (by omega) (by unfold mfu; omega) (fun _ _ => rfl) (fun a ha => by omega) w.2.1
  rw [sB_id, nI_0] at eB
  refine ⟨1, mI (lieA s z0 z1 z2 z3 (nI (n 8)) B') 20 0, ?_, ?_⟩
  · refine M0 (fun o => o = some (1, mI (lieA s z0 z1 z2 z3 (nI (n 8)) B') 20 0)) (fun a => absurd a1 a) (fun _ a => absurd a2 a) (fun _ _ => ?_)
    rw [if_neg (by rw [hn8.1]; exact q8'), if_neg (by rw [hn.1]; exact fun e => h60 ((nI_eq (b := 60) (by omega) (by omega)).mp e))]
    exact eB
  obtain ⟨F1, F2, F3⟩ := n9_F (cp := cp) hn.2 h60'
  have wL : W2 (i + 1) (2 * i + 2) (mI (lieA s z0 z1 z2 z3 (nI (n 8)) B') 20 0) (va_up (n9 n) 8 0) := (wn.lie h60' a1 a2 hn8.2 B3).n8
  have eF1 : Fc (va_up (n9 n) 8 0) = Fc (n9 n) := rfl
  have eF2 : Fs (va_up (n9 n) 8 0) cp = Fs (n9 n) cp := rfl
  refine JP.sj (y := y) (X := fun kc ks Q => m_X11_inject E (y 0 0) z0 z1 z2 z3 h kc ks Q) hb hi ⟨va_up (n9 n) 8 0, cp, wL, by rw [eF1]; exact F1, by rw [eF2]; exact F2, fun kc ks k1 k2 Q hQ => pre kc ks Q (s_wadd R (fun e _ => ?_) (fun e => absurd e h60) (fun h2 q b sz f2 fw _ hq m1' m2' m3' m4' m5' gA => ⟨fun e => (by cases e), fun a ea => ?_⟩))⟩ (Nat.le_refl _)
  · obtain ⟨f1, f2⟩ := F3 e
    rw [eF1] at k1
    rw [eF2] at k2
    omega
  · cases ea
    obtain ⟨-, -, -, -, -, -, -, -, -, -, -, ⟨g11, f11, f11'⟩⟩ := id R.2.2.1
    have l0 := gA.at f0 (fA_no R hq (ly0 (by omega)) (by omega) (by omega))
    have l9 := gA.at f11 (fA_no R hq (ly0 (by omega)) (by omega) (by omega))
    refine gR_of l0 rfl (gI_of l0 rfl (isO_of m1' (msg_copy (B := B') R w.sz h60' hq m1' m2' m3' m4' m5' gA l9 hn8.2 (fun a ha => ?_) B1 (fun h3 R3 g3 gM => ?_))))
    · rw [f11' a ha, B2 a ha]
    · have l3 := gM.at f0 (fM.no R hq (ly0 (by omega)) (by omega) (by omega))
      refine pV_of l3 (by show 3 < 4; decide) ?_
      obtain ⟨R4, g4⟩ := R3.n8
      have yj : ∀ j, yM y n q b 0 j = y 0 j := fun j => rfl
      rw [yj 0, yj 1, yj 2, yj 9] at R4 g4
      exact hQ _ _ R4 rfl (g3.tr g4)
end AGAIN
