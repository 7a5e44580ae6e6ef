/-! the calls that look, and put, alter, power: the reference answers -/
section SM
variable {s s' : MS} {n : Nat → Nat} {i u : Nat} {z z1 z2 : Int32}
theorem WF.nx (w : WF i s) : WF (i + 1) s := by
  obtain ⟨n, w⟩ := w
  exact ⟨n, w.mono (by omega) (by omega)⟩
theorem ixO {N M : Nat} (hN : N ≤ M) (hM : M < 2 ^ 31) (h0 : ¬ z < 0) (h1 : ¬ nI N ≤ z) : ∃ j, j < N ∧ z = nI j ∧ ¬ (z < 0 ∨ M ≤ z.toNatClampNeg) := by
  rcases ixD z (N := N) (by omega) with q | ⟨j, hj, e⟩
  · rcases q with q | q
    · exact absurd q h0
    · exact absurd q h1
  · subst e
    exact ⟨j, hj, rfl, nI_in (by omega) (by omega)⟩
theorem SM_count_ok : SM_count WF := by
  intro s i z w hi
  have w1 := w.nx
  unfold M_count
  exact Mw.i (fun _ => Mw.r w1) (fun _ => Mw.i (fun _ => Mw.r w1) (fun _ => Mw.i (fun _ => Mw.r w1) (fun _ => Mw.i (fun _ => Mw.r w1) (fun _ => Mw.i (fun _ => Mw.r w1) (fun _ => Mw.i (fun _ => Mw.r w1) (fun _ => Mw.r w1))))))
theorem SM_outcome_ok : SM_outcome WF := by
  intro s i z w hi
  have w1 := w.nx
  obtain ⟨n, w0⟩ := w
  have e36 := w0.1.2.1
  unfold M_outcome M_outcome_L12
  refine Mw.i (fun _ => Mw.r w1) (fun a => Mw.i (fun b => ?_) (fun _ => Mw.r w1))
  rw [e36.1] at b
  obtain ⟨j, hj, e, hb⟩ := ixO (N := n 1) (M := 8) (by omega) (by omega) a (Int32.not_le.mpr b)
  exact Mw.n hb (Mw.r w1)
theorem SM_told_ok : SM_told WF := by
  intro s i z z1 w hi
  have w1 := w.nx
  obtain ⟨n, w0⟩ := w
  have e := w0.1.1
  unfold M_told
  refine Mw.i (fun _ => Mw.r w1) (fun a => Mw.i (fun b => ?_) (fun _ => Mw.r w1))
  rw [e.1] at b
  obtain ⟨j, hj, e, hb⟩ := ixO (N := n 0) (M := 16) (by omega) (by omega) a (Int32.not_le.mpr b)
  exact Mw.i (fun _ => Mw.n hb (Mw.r w1)) (fun _ => Mw.i (fun _ => Mw.n hb (Mw.r w1)) (fun _ => Mw.i (fun _ => Mw.n hb (Mw.r w1)) (fun _ => Mw.i (fun _ => Mw.n hb (Mw.r w1)) (fun _ => Mw.r w1))))
theorem SM_account_ok : SM_account WF := by
  intro s i z w hi
  have w1 := w.nx
  obtain ⟨n, w0⟩ := w
  have e := w0.1.1
  unfold M_account M_account_L12
  refine Mw.i (fun _ => Mw.r w1) (fun a => Mw.i (fun b => ?_) (fun _ => Mw.r w1))
  rw [e.1] at b
  obtain ⟨j, hj, e, hb⟩ := ixO (N := n 0) (M := 16) (by omega) (by omega) a (Int32.not_le.mpr b)
  exact Mw.n hb (Mw.r w1)
theorem SM_debit_ok : SM_debit WF := by
  intro s i z z1 w hi
  have w1 := w.nx
  obtain ⟨n, w0⟩ := w
  have e := w0.1.2.2.2.1
  unfold M_debit_II M_debit_II_L22
  refine Mw.i (fun _ => Mw.r w1) (fun a => Mw.i (fun _ => Mw.r w1) (fun b => Mw.i (fun _ => Mw.r w1) (fun c => Mw.i (fun d => ?_) (fun _ => Mw.r w1))))
  rw [e.1] at b
  obtain ⟨j, hj, rfl, -⟩ := ixO (N := n 3) (M := 512) (by omega) (by omega) a b
  have d' : ¬ nI 7 ≤ z1 := fun v => absurd (Int32.le_trans v d) (by decide)
  obtain ⟨q, hq, rfl, -⟩ := ixO (N := 7) (M := 7) (by omega) (by omega) c d'
  refine Mw.n ?_ (Mw.r w1)
  rw [show (7 : Int32) * nI j = nI (7 * j) from pk_mul 7 _, nI_add]
  exact nI_in (by omega) (by omega)
theorem M_isMessage_eq (s : MS) (z : Int32) : ((¬ z < 0 ∧ ¬ s.1 6 ≤ z) → M_isMessage s z = some (1, s)) ∧ (¬ (¬ z < 0 ∧ ¬ s.1 6 ≤ z) → M_isMessage s z = some (0, s)) := by
  unfold M_isMessage
  by_cases a : z < 0
  · rw [if_pos a]; exact ⟨fun v => absurd a v.1, fun _ => rfl⟩
  · rw [if_neg a]
    by_cases b : s.1 6 ≤ z
    · rw [if_pos b]; exact ⟨fun v => absurd b v.2, fun _ => rfl⟩
    · rw [if_neg b]; exact ⟨fun _ => rfl, fun v => absurd ⟨a, b⟩ v⟩
theorem SM_message_ok : SM_message WF := by
  intro s i z z1 w hi
  have w1 := w.nx
  obtain ⟨n, w0⟩ := w
  have e := w0.1.2.2.1
  obtain ⟨m1, m0⟩ := M_isMessage_eq s z
  unfold M_message
  by_cases q : ¬ z < 0 ∧ ¬ s.1 6 ≤ z
  · rw [m1 q, Option.bind_some]
    dsimp only [lt1]
    have qq := q.2
    rw [e.1] at qq
    obtain ⟨j, hj, e, hb⟩ := ixO (N := n 2) (M := 60) (by omega) (by omega) q.1 qq
    exact Mw.no (by decide) (Mw.i (fun _ => Mw.n hb (Mw.r w1)) (fun _ => Mw.i (fun _ => Mw.n hb (Mw.r w1)) (fun _ => Mw.i (fun _ => Mw.n hb (Mw.r w1)) (fun _ => Mw.i (fun _ => Mw.n hb (Mw.r w1)) (fun _ => Mw.i (fun _ => Mw.n hb (Mw.r w1)) (fun _ => Mw.r w1))))))
  · rw [m0 q, Option.bind_some]
    dsimp only [lt1]
    exact Mw.y rfl (Mw.r w1)
theorem SM_at_ok : SM_at WF := by
  intro s i z z1 w hi
  have w1 := w.nx
  obtain ⟨n, w0⟩ := w
  have e := w0.1.2.2.1
  obtain ⟨m1, m0⟩ := M_isMessage_eq s z
  unfold M_at M_at_L22
  by_cases q : ¬ z < 0 ∧ ¬ s.1 6 ≤ z
  · rw [m1 q, Option.bind_some]
    dsimp only [lt1]
    have qq := q.2
    rw [e.1] at qq
    obtain ⟨j, hj, rfl, hb⟩ := ixO (N := n 2) (M := 60) (by omega) (by omega) q.1 qq
    refine Mw.no (by decide) (Mw.i (fun _ => Mw.r w1) (fun a => Mw.n hb (Mw.i (fun b => ?_) (fun _ => Mw.r w1))))
    obtain ⟨zz, hz, ez⟩ := w0.2.2.2.1 j (by omega)
    rw [nI_clamp (by omega), ez] at b
    obtain ⟨c, hc, rfl, -⟩ := ixO (N := zz) (M := 64) (by omega) (by omega) a (Int32.not_le.mpr b)
    refine Mw.n ?_ (Mw.r w1)
    rw [show (64 : Int32) * nI j = nI (64 * j) from pk_mul 64 _, nI_add]
    exact nI_in (by omega) (by omega)
  · rw [m0 q, Option.bind_some]
    dsimp only [lt1]
    exact Mw.y rfl (Mw.r w1)
theorem wi_b {z : Int32} {hi : Nat} (hh : hi < 2 ^ 31) (w : wi z.toInt64 0 (nI hi).toInt64) : ∃ q, q ≤ hi ∧ z = nI q := by
  obtain ⟨q, -, h1, h2⟩ := wi_n (z := z) (lo := 0) (hi := hi) (by omega) hh (by rw [nI_l (n := 0) (by omega)]; exact w)
  exact ⟨q, h1, h2⟩
theorem W2.pow (w : W2 i u s n) {c : Nat} (hc : c < n 0) {p : Nat} (hp : p ≤ 9) : W2 i u (mA s 35 c (nI p)) n := w.cd (c := c) hc rfl rfl (fun j hj => by simp [cdv, mA, va_up, upd, hj]) (Or.inr ⟨p, hp, by simp [mA, va_up, upd]⟩)
theorem SM_power_ok : SM_power WF := by
  intro s i z z1 w hi
  have w1 := w.nx
  obtain ⟨n, w0⟩ := w
  have e := w0.1.1
  obtain ⟨b1, b0⟩ := M_isIn_eq s z1.toInt64 0 9
  unfold M_power
  refine Mw.i (fun _ => Mw.r w1) (fun a => Mw.i (fun _ => Mw.r w1) (fun b => ?_))
  rw [e.1] at b
  obtain ⟨j, hj, rfl, hb⟩ := ixO (N := n 0) (M := 16) (by omega) (by omega) a b
  by_cases q : wi z1.toInt64 0 9
  · rw [b1 q, Option.bind_some]
    dsimp only [lt1]
    obtain ⟨p, hp, rfl⟩ := wi_b (z := z1) (hi := 9) (by omega) (by rw [nI_l (n := 9) (by omega)]; exact q)
    refine Mw.no (by decide) (Mw.n hb (Mw.r ⟨n, ?_⟩))
    rw [nI_clamp (by omega)]
    exact (w0.pow hj hp).mono (by omega) (by omega)
  · rw [b0 q, Option.bind_some]
    dsimp only [lt1]
    exact Mw.y rfl (Mw.r w1)
theorem W2.put (w : W2 i u s n) {p : Nat} (hp : p ≤ 255) (h8 : n 8 < 64) : W2 i u (mI (mA s 19 (n 8) (nI p)) 20 (nI (n 8 + 1))) (va_up n 8 (n 8 + 1)) := by
  obtain ⟨⟨c0, c1, c2, c3, c4, c5, c6, c7, c8⟩, wb, wg, w⟩ := w
  refine ⟨⟨c0, c1, c2, c3, c4, c5, c6, c7, ⟨rfl, by show n 8 + 1 ≤ 64; omega⟩⟩, wb, fun a ha => ?_, w⟩
  have e : (mI (mA s 19 (n 8) (nI p)) 20 (nI (n 8 + 1))).2.2.1 19 = upd (s.2.2.1 19) (n 8) (nI p) := rfl
  rw [e]
  by_cases z : a = n 8
  · subst z; rw [pk_us]; exact ⟨p, hp, rfl⟩
  · rw [pk_un z]; exact wg a ha
theorem SM_put_ok : SM_put WF := by
  intro s i z w hi
  have w1 := w.nx
  obtain ⟨n, w0⟩ := w
  have e := w0.1.2.2.2.2.2.2.2.2
  obtain ⟨b1, b0⟩ := M_isIn_eq s z.toInt64 0 255
  unfold M_put
  refine Mw.i (fun _ => Mw.r w1) (fun a => ?_)
  have h8 : n 8 < 64 := by
    rw [e.1] at a
    have : n 8 ≠ 64 := fun v => a (by rw [v]; rfl)
    omega
  by_cases q : wi z.toInt64 0 255
  · rw [b1 q, Option.bind_some]
    dsimp only [lt1]
    obtain ⟨p, hp, rfl⟩ := wi_b (z := z) (hi := 255) (by omega) (by rw [nI_l (n := 255) (by omega)]; exact q)
    rw [e.1, nI_clamp (by omega)]
    refine Mw.no (by decide) (Mw.n (nI_in2 (by omega) (by omega)) (Mw.r ⟨va_up n 8 (n 8 + 1), ?_⟩))
    have e2 : (mA s 19 (n 8) (nI p)).1 20 + 1 = nI (n 8 + 1) := by
      show s.1 20 + 1 = _
      rw [e.1, nI_1]
    rw [e2]
    exact (w0.put hp h8).mono (by omega) (by omega)
  · rw [b0 q, Option.bind_some]
    dsimp only [lt1]
    exact Mw.y rfl (Mw.r w1)
theorem W2.alt (w : W2 i u s n) {p a0 : Nat} (hp : p ≤ 255) : W2 i u (mA s 12 a0 (nI p)) n := by
  obtain ⟨wc, wb, w⟩ := w
  refine ⟨wc, fun a ha => ?_, w⟩
  have e : (mA s 12 a0 (nI p)).2.2.1 12 = upd (s.2.2.1 12) a0 (nI p) := rfl
  rw [e]
  by_cases z : a = a0
  · subst z; rw [pk_us]; exact ⟨p, hp, rfl⟩
  · rw [pk_un z]; exact wb a ha
theorem SM_alter_ok : SM_alter WF := by
  intro s i z z1 z2 w hi
  have w1 := w.nx
  obtain ⟨n, w0⟩ := w
  have e := w0.1.2.2.1
  obtain ⟨m1, m0⟩ := M_isMessage_eq s z
  obtain ⟨b1, b0⟩ := M_isIn_eq s z2.toInt64 0 255
  unfold M_alter
  by_cases q : ¬ z < 0 ∧ ¬ s.1 6 ≤ z
  · rw [m1 q, Option.bind_some]
    dsimp only [lt1]
    have qq := q.2
    rw [e.1] at qq
    obtain ⟨j, hj, rfl, hb⟩ := ixO (N := n 2) (M := 60) (by omega) (by omega) q.1 qq
    refine Mw.no (by decide) (Mw.i (fun _ => Mw.r w1) (fun a => Mw.n hb (Mw.i (fun _ => Mw.r w1) (fun b => ?_))))
    obtain ⟨zz, hz, ez⟩ := w0.2.2.2.1 j (by omega)
    rw [nI_clamp (by omega), ez] at b
    obtain ⟨c, hc, rfl, -⟩ := ixO (N := zz) (M := 64) (by omega) (by omega) a b
    by_cases q2 : wi z2.toInt64 0 255
    · rw [b1 q2, Option.bind_some]
      dsimp only
      obtain ⟨p, hp, rfl⟩ := wi_b (z := z2) (hi := 255) (by omega) (by rw [nI_l (n := 255) (by omega)]; exact q2)
      refine Mw.no (by decide) (Mw.n ?_ (Mw.r ⟨n, (w0.alt hp).mono (by omega) (by omega)⟩))
      rw [show (64 : Int32) * nI j = nI (64 * j) from pk_mul 64 _, nI_add]
      exact nI_in (by omega) (by omega)
    · rw [b0 q2, Option.bind_some]
      exact Mw.y rfl (Mw.r w1)
  · rw [m0 q, Option.bind_some]
    dsimp only [lt1]
    exact Mw.y rfl (Mw.r w1)
theorem WF_sz : ∀ i s, WF i s → ∀ j, j < 60 → s.2.2.1 11 j ≤ 64 := fun _ _ ⟨_, w⟩ => w.sz
end SM
theorem SJ_count_ok : SJ_count RX WF := SJ_count_of SX_count_ok SM_count_ok
theorem SJ_outcome_ok : SJ_outcome RX WF := SJ_outcome_of SX_outcome_ok SM_outcome_ok
theorem SJ_told_ok : SJ_told RX WF := SJ_told_of SX_told_ok SM_told_ok
theorem SJ_account_ok : SJ_account RX WF := SJ_account_of SX_account_ok SM_account_ok
theorem SJ_debit_ok : SJ_debit RX WF := SJ_debit_of SX_debit_ok SM_debit_ok
theorem SJ_message_ok : SJ_message RX WF := SJ_message_of SX_message_ok SM_message_ok
theorem SJ_at_ok : SJ_at RX WF := SJ_at_of (SX_at_ok WF_sz) SM_at_ok
theorem SJ_power_ok : SJ_power RX WF := SJ_power_of SX_power_ok SM_power_ok
theorem SJ_put_ok : SJ_put RX WF := SJ_put_of SX_put_ok SM_put_ok
theorem SJ_alter_ok : SJ_alter RX WF := SJ_alter_of (SX_alter_ok WF_sz) SM_alter_ok
