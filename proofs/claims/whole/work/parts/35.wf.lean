/-! what holds of the reference's state behind i calls: u bounds the seals, with those that are to come from batches -/
def okB (x : Int32) : Prop := ∃ b, b ≤ 255 ∧ x = nI b
def Ad (n : Nat → Nat) (so nu : Int32) : Prop := (so = 0 ∧ ∃ c, c < n 0 ∧ nu = nI c) ∨ (so = 1 ∧ ∃ t, t < n 1 ∧ nu = nI t) ∨ (so = 2 ∧ nu = 0)
def uns (s : MS) (nb : Nat) : Nat := ((List.range nb).filter (fun b => decide (s.2.2.1 55 b = 0))).length
def W2c (i u : Nat) (s : MS) (n : Nat → Nat) : Prop :=
  (s.1 21 = nI (n 0) ∧ n 0 ≤ 16) ∧ (s.1 36 = nI (n 1) ∧ n 1 ≤ 8) ∧ (s.1 6 = nI (n 2) ∧ n 2 ≤ 60) ∧ (s.1 61 = nI (n 3) ∧ n 3 ≤ i) ∧ (s.1 0 = nI (n 4) ∧ n 4 + uns s (n 7) ≤ u) ∧ (s.1 57 = nI (n 5) ∧ n 5 ≤ i) ∧ (s.1 59 = nI (n 6) ∧ n 6 ≤ i) ∧ (s.1 53 = nI (n 7) ∧ n 7 ≤ i) ∧ (s.1 20 = nI (n 8) ∧ n 8 ≤ 64)
def W2t (s : MS) (n : Nat → Nat) : Prop := ∀ t, t < n 1 → ¬ s.2.2.1 41 t = 0 → (∃ c, c < n 0 ∧ s.2.2.1 43 t = nI c) ∧ (s.2.2.1 41 t = 2 ∨ s.2.2.1 41 t = 4 ∨ s.2.2.1 41 t = 6 ∨ s.2.2.1 41 t = 8 ∨ s.2.2.1 41 t = 10) ∧ (¬ s.2.2.1 41 t = 2 → ∃ c, c < n 0 ∧ s.2.2.1 47 t = nI c)
def W2p (s : MS) (n : Nat → Nat) : Prop := ∀ c, c < n 0 → s.2.2.1 35 c = -1 ∨ ∃ p, p ≤ 9 ∧ s.2.2.1 35 c = nI p
def W2f (s : MS) (n : Nat → Nat) : Prop := (∀ c, n 0 ≤ c → c < 16 → s.2.2.1 26 c = 0 ∧ s.2.2.1 27 c = 0 ∧ s.2.2.1 29 c = 0 ∧ s.2.2.1 30 c = 0 ∧ s.2.2.1 31 c = 0) ∧ ∀ t, n 1 ≤ t → t < 8 → s.2.2.1 40 t = 0 ∧ s.2.2.1 41 t = 0 ∧ s.2.2.1 43 t = 0 ∧ s.2.2.1 46 t = 0 ∧ s.2.2.1 48 t = 0 ∧ s.2.2.1 51 t = 0 ∧ bl s (n 7) t = []
def W2 (i u : Nat) (s : MS) (n : Nat → Nat) : Prop :=
  W2c i u s n ∧ (∀ a, a < 3840 → okB (s.2.2.1 12 a)) ∧ (∀ a, a < 64 → okB (s.2.2.1 19 a)) ∧ (∀ j, j < 60 → ∃ z, z ≤ 64 ∧ s.2.2.1 11 j = nI z) ∧ (∀ j, j < n 2 → Ad n (s.2.2.1 7 j) (s.2.2.1 8 j) ∧ Ad n (s.2.2.1 9 j) (s.2.2.1 10 j)) ∧ W2t s n ∧ W2p s n ∧ Dist s (n 4) ∧ W2f s n
def WF : TWF := fun i s => ∃ n, W2 i (2 * i) s n
section WFS
variable {i u i' u' : Nat} {s s' s1 : MS} {n cp n' cp' c : Nat → Nat}
theorem W2.eqv (w : W2 i u s n) (e : vis s1 = vis s) : W2 i u s1 n := by
  have h1 : W2 i u (unvis (vis s)) n := w
  rw [← e] at h1
  exact h1
theorem W2.mono (w : W2 i u s n) (h1 : i ≤ i') (h2 : u ≤ u') : W2 i' u' s n := by
  obtain ⟨⟨c0, c1, c2, c3, c4, c5, c6, c7, c8⟩, w⟩ := w
  exact ⟨⟨c0, c1, c2, ⟨c3.1, by omega⟩, ⟨c4.1, by omega⟩, ⟨c5.1, by omega⟩, ⟨c6.1, by omega⟩, ⟨c7.1, by omega⟩, c8⟩, w⟩
theorem W2.sz (w : W2 i u s n) : ∀ j, j < 60 → s.2.2.1 11 j ≤ 64 := by
  intro j hj
  obtain ⟨z, h1, h2⟩ := w.2.2.2.1 j hj
  rw [h2]
  exact nI_le (b := 64) h1 (by omega)
theorem W2.tr (w : W2 i u s c) (hi : i < 2 ^ 20) (hu : u < 2 ^ 20) (Rn : RXn s n cp) : W2 i u s n := by
  obtain ⟨⟨c0, c1, c2, c3, c4, c5, c6, c7, c8⟩, w⟩ := w
  obtain ⟨r0, r1, r2, r3, r4, r5, r6, r7, r8, r9, -⟩ := Rn
  have e0 : c 0 = n 0 := (nI_eq (by omega) (by omega)).mp (c0.1.symm.trans r0.1)
  have e1 : c 1 = n 1 := (nI_eq (by omega) (by omega)).mp (c1.1.symm.trans r1.1)
  have e2 : c 2 = n 2 := (nI_eq (by omega) (by omega)).mp (c2.1.symm.trans r2.1)
  have e3 : c 3 = n 3 := (nI_eq (by omega) (by omega)).mp (c3.1.symm.trans r3)
  have e4 : c 4 = n 4 := (nI_eq (by omega) (by omega)).mp (c4.1.symm.trans r4)
  have e5 : c 5 = n 5 := (nI_eq (by omega) (by omega)).mp (c5.1.symm.trans r5)
  have e6 : c 6 = n 6 := (nI_eq (by omega) (by omega)).mp (c6.1.symm.trans r6)
  have e7 : c 7 = n 7 := (nI_eq (by omega) (by omega)).mp (c7.1.symm.trans r7)
  have e8 : c 8 = n 8 := (nI_eq (by omega) (by omega)).mp (c8.1.symm.trans r8.1)
  unfold W2 W2c W2t W2p W2f Ad at *
  rw [e0, e1, e2, e4, e7] at w
  rw [e0] at c0
  rw [e1] at c1
  rw [e2] at c2
  rw [e3] at c3
  rw [e4, e7] at c4
  rw [e5] at c5
  rw [e6] at c6
  rw [e7] at c7
  rw [e8] at c8
  exact ⟨⟨c0, c1, c2, c3, c4, c5, c6, c7, c8⟩, w⟩
theorem Ad.m {so nu : Int32} (h : Ad n so nu) (h0 : n 0 ≤ n' 0) (h1 : n 1 ≤ n' 1) : Ad n' so nu := by
  rcases h with ⟨e, c, hc, e2⟩ | ⟨e, c, hc, e2⟩ | h
  · exact Or.inl ⟨e, c, by omega, e2⟩
  · exact Or.inr (Or.inl ⟨e, c, by omega, e2⟩)
  · exact Or.inr (Or.inr h)
theorem W2.lie (w : W2 i u s n) {so nu oso onu : Int32} {z : Nat} {B : Nat → Int32} (h60 : n 2 < 60) (a1 : Ad n so nu) (a2 : Ad n oso onu) (hz : z ≤ 64) (hB : ∀ a, a < 3840 → okB (B a)) : W2 i u (lieA s so nu oso onu (nI z) B) (n9 n) := by
  obtain ⟨⟨c0, c1, c2, c3, c4, c5, c6, c7, c8⟩, wb, wg, wz, wa, wt, wp, wd, wf⟩ := w
  have h6 : (s.1 6).toNatClampNeg = n 2 := by rw [c2.1, nI_clamp (by omega)]
  refine ⟨⟨c0, c1, ⟨?_, ?_⟩, c3, c4, c5, c6, c7, c8⟩, hB, wg, fun j hj => ?_, fun j hj => ?_, wt, wp, wd, wf⟩
  · show s.1 6 + 1 = nI (n 2 + 1)
    rw [c2.1, nI_1]
  · show n 2 + 1 ≤ 60; omega
  · show ∃ z', z' ≤ 64 ∧ upd (s.2.2.1 11) (s.1 6).toNatClampNeg (nI z) j = nI z'
    rw [h6]
    by_cases e : j = n 2
    · subst e; exact ⟨z, hz, pk_us⟩
    · rw [pk_un e]; exact wz j hj
  · have hj : j < n 2 + 1 := hj
    show Ad n (upd (s.2.2.1 7) (s.1 6).toNatClampNeg so j) (upd (s.2.2.1 8) (s.1 6).toNatClampNeg nu j) ∧ Ad n (upd (s.2.2.1 9) (s.1 6).toNatClampNeg oso j) (upd (s.2.2.1 10) (s.1 6).toNatClampNeg onu j)
    rw [h6]
    by_cases e : j = n 2
    · subst e; rw [pk_us, pk_us, pk_us, pk_us]; exact ⟨a1, a2⟩
    · rw [pk_un e, pk_un e, pk_un e, pk_un e]; exact wa j (by omega)
theorem okB_bv {v : Int64} {len j : Nat} : okB (bv v len j) := by
  obtain ⟨q, h1, h2⟩ := pk_andE ((v >>> ((8 * ((nI len - 1) - nI j)).toInt64 &&& 63)).toInt32) (m := 255) 8 (by decide)
  exact ⟨q, by omega, h2⟩
theorem okB_wv {k : Nat} {v : Nat → Int64} (hk : k < 12) : ∀ t, t < 12 → ∀ j, okB (wvT k v t j) := by
  intro t
  induction t with
  | zero => intro _ j; exact ⟨k, by omega, rfl⟩
  | succ t ih =>
    intro ht j
    show okB (if _ then _ else _)
    split
    · split
      · exact ⟨t + 1, by omega, rfl⟩
      · split
        · exact ⟨lenT (t + 1), by have := (lenT_le (t + 1) ht).1; omega, rfl⟩
        · exact okB_bv
    · exact ih (by omega) j
theorem W2.send (w : W2 i u s n) {k : Nat} {so nu oso onu r : Int32} {v : Nat → Int64} (hk : 1 ≤ k ∧ k < 12) (a1 : Ad n so nu) (a2 : Ad n oso onu) (hS : SendR s k so nu oso onu v n r s' n') : W2 i u s' n' := by
  rcases hS with ⟨_, _, rfl, rfl⟩ | ⟨h60, _, rfl, B, rfl, b1, b2⟩
  · exact w
  · have hs := szK_le k hk.2 11 (by omega)
    refine w.lie h60 a1 a2 (by omega) (fun a ha => ?_)
    by_cases z : a < 64 * n 2 ∨ 64 * n 2 + szK k 11 ≤ a
    · rw [b2 a z]; exact w.2.1 a ha
    · have := b1 (a - 64 * n 2) (by omega)
      rw [show 64 * n 2 + (a - 64 * n 2) = a by omega] at this
      rw [this]
      exact okB_wv hk.2 11 (by omega) _
theorem mq_old {key key' : Int32} {rs rs' : Nat} {g g' : Nat → Int64} {j : Nat} (h0 : (s.1 0).toNatClampNeg = n 4) (hj : j < n 4) (hr : rs' ≤ 12) : mq (sealN s key rs g) key' rs' g' j ↔ mq s key' rs' g' j := by
  have e1 : (sealN s key rs g).2.2.1 1 j = s.2.2.1 1 j := by
    show upd (s.2.2.1 1) (s.1 0).toNatClampNeg key j = _
    rw [h0, pk_un (by omega)]
  have e2 : (sealN s key rs g).2.2.1 2 j = s.2.2.1 2 j := by
    show upd (s.2.2.1 2) (s.1 0).toNatClampNeg (nI rs) j = _
    rw [h0, pk_un (by omega)]
  have e3 : ∀ i, i < rs' → (sealN s key rs g).2.2.2 3 (12 * j + i) = s.2.2.2 3 (12 * j + i) := by
    intro i hi
    show (if _ then _ else _) = _
    rw [h0, if_neg (by omega)]
  unfold mq
  rw [e1, e2]
  exact ⟨fun q => ⟨q.1, q.2.1, fun i hi => by rw [← e3 i hi]; exact q.2.2 i hi⟩, fun q => ⟨q.1, q.2.1, fun i hi => by rw [e3 i hi]; exact q.2.2 i hi⟩⟩
theorem mq_new {key key' : Int32} {rs rs' : Nat} {g g' : Nat → Int64} (h0 : (s.1 0).toNatClampNeg = n 4) (hr : rs ≤ 12) (hr' : rs' ≤ 12) (q : mq (sealN s key rs g) key' rs' g' (n 4)) : key' = key ∧ rs' = rs ∧ ∀ i, i < rs → g' i = g i := by
  have e1 : (sealN s key rs g).2.2.1 1 (n 4) = key := by
    show upd (s.2.2.1 1) (s.1 0).toNatClampNeg key (n 4) = _
    rw [h0, pk_us]
  have e2 : (sealN s key rs g).2.2.1 2 (n 4) = nI rs := by
    show upd (s.2.2.1 2) (s.1 0).toNatClampNeg (nI rs) (n 4) = _
    rw [h0, pk_us]
  have er : rs' = rs := (nI_eq (by omega) (by omega)).mp (q.2.1.symm.trans e2)
  subst er
  refine ⟨q.1.symm.trans e1, rfl, fun i hi => ?_⟩
  have := q.2.2 i hi
  rw [← this]
  show (if _ then _ else _) = _
  rw [h0, if_pos (by omega)]
  congr 1; omega
theorem W2.seal (w : W2 i u s n) {key r : Int32} {rs : Nat} {g : Nat → Int64} (hr : rs ≤ 12) (hu : n 4 < 2048) (hS : SealR s key rs g n cp r s' n' cp') : W2 i (u + 1) s' n' := by
  rcases hS with ⟨j, _, _, _, _, rfl, rfl, _⟩ | ⟨hno, _, rfl, rfl, _⟩
  · exact w.mono (Nat.le_refl _) (by omega)
  · obtain ⟨⟨c0, c1, c2, c3, c4, c5, c6, c7, c8⟩, wb, wg, wz, wa, wt, wp, wd, wf⟩ := w
    have h0 : (s.1 0).toNatClampNeg = n 4 := by rw [c4.1, nI_clamp (by omega)]
    refine ⟨⟨c0, c1, c2, c3, ⟨?_, ?_⟩, c5, c6, c7, c8⟩, wb, wg, wz, wa, wt, wp, fun key' rs' g' j k hr' hj hk m1 m2 => ?_, wf⟩
    · show s.1 0 + 1 = nI (n 4 + 1)
      rw [c4.1, nI_1]
    · show n 4 + 1 + uns s (n 7) ≤ u + 1
      omega
    · have hj : j < n 4 + 1 := hj
      have hk : k < n 4 + 1 := hk
      by_cases ej : j = n 4
      · subst ej
        by_cases ek : k = n 4
        · exact ek.symm
        · exfalso
          obtain ⟨rfl, rfl, e⟩ := mq_new h0 hr hr' m1
          have m2 := (mq_old h0 (show k < n 4 by omega) hr').mp m2
          exact hno k (by omega) (m2.c e)
      · by_cases ek : k = n 4
        · subst ek
          exfalso
          obtain ⟨rfl, rfl, e⟩ := mq_new h0 hr hr' m2
          have m1 := (mq_old h0 (show j < n 4 by omega) hr').mp m1
          exact hno j (by omega) (m1.c e)
        · exact wd key' rs' g' j k hr' (by omega) (by omega) ((mq_old h0 (by omega) hr').mp m1) ((mq_old h0 (by omega) hr').mp m2)
end WFS
