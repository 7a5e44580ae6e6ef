/-! the relation behind a message more; World.send -/
section SEND
variable {E : Ev} {A : Nat → Prop} {h h' : Hp} {y : Nat → Nat → Nat} {s : MS} {n cp : Nat → Nat}
theorem clamp_le {z : Int32} {b : Nat} (h : z ≤ nI b) (hb : b < 2 ^ 31) : z.toNatClampNeg ≤ b := by
  rw [Int32.le_iff_toInt_le, nI_toInt hb] at h
  show z.toInt.toNat ≤ b
  omega
theorem upd_ne {f : Nat → Int32} {k j : Nat} {x : Int32} (h : j ≠ k) : upd f k x j = f j := pk_un h
theorem RXo.msg (R : RXo E A h y s n cp) {q b : Nat} {so nu oso onu sz : Int32} {f : Nat → Int32} {fw : Nat → Option Nat} {B : Nat → Int32} (h60 : n 2 < 60) (hq : qb h y n q b) (hsz : ∀ j, j < 60 → s.2.2.1 11 j ≤ 64)
    (m1 : xh_at h' q (.inr (5, mg so nu oso onu sz b))) (m2 : xh_at h' b (.inl (E.1 0, 64, .inl f))) (m3 : xh_at h' (y 0 3) (.inr (10, [.ref (y 0 10), .int (nI (n 2 + 1))]))) (m4 : xh_at h' (y 0 10) (.inl (E.1 3, 60, .inr (.inr (.inr (.inr fw)))))) (m5 : ∀ k, k < 60 → fw k = if k < n9 n 9 then some (yM y n q b 1 k) else none) (m6 : ∃ a b c, xh_at h' (y 0 6) (.inr (3, [.int a, .int b, .int c, .ref (y 0 8)]))) (g : xg (fM y q b) h h')
    (hB : ∀ i, i < sz.toNatClampNeg → f i = B (64 * n 2 + i)) (hB0 : ∀ a, a < 64 * n 2 → B a = s.2.2.1 12 a) : RXo E A h' (yM y n q b) (lieA s so nu oso onu sz B) (n9 n) cp := by
  obtain ⟨Ra, Rn, Rf, Rl, Rm, Rc, Rt, Rs, Rp⟩ := id R
  have hn := Rn.2.2.1
  have h6 : (s.1 6).toNatClampNeg = n 2 := by rw [hn.1, nI_clamp (by omega)]
  have e9 : n9 n 9 = if n 2 < n 9 then n 9 else n 9 + 1 := rfl
  have ke : ∀ {k j e}, lyv n cp k j → ¬ (k = 0 ∧ (j = 3 ∨ j = 10 ∨ j = 6)) → ¬ ((k = 1 ∨ k = 2) ∧ j = n 2) → xh_at h (y k j) e → xh_at h' (y k j) e := fun hl h0 h1 hx => g.at hx (fM.no R hq hl h0 h1)
  have k0 : ∀ {j e}, j ≤ 18 → j ≠ 3 → j ≠ 10 → j ≠ 6 → xh_at h (y 0 j) e → xh_at h' (y 0 j) e := fun hj q1 q2 q3 hx => ke (ly0 hj) (by omega) (by omega) hx
  have hP : ∀ a fs, xh_at h a (.inr (6, fs)) → ¬ fM y q b a := fun a fs hx => fM.pay R hq hx
  have ho : ∀ a, xo_at h a → xo_at h' a := by
    intro a ⟨ci, fs, q1, q2⟩
    by_cases z : fM y q b a
    · rcases z with rfl | rfl | rfl | rfl | rfl
      · exact ⟨10, _, by omega, m3⟩
      · obtain ⟨fw0, f4, _⟩ := Rf.2.2.2.2.1
        have := q2.2.symm.trans f4.2
        cases this
      · obtain ⟨a', b', c', z⟩ := m6
        exact ⟨3, _, by omega, z⟩
      · exact ⟨5, _, by omega, m1⟩
      · rcases hq with ⟨z, rfl, rfl⟩ | ⟨z, z1, z2, z3⟩
        · obtain ⟨a', b', c', d', sz', f', q3, q4, -⟩ := Rm (n 2) z
          have := q2.2.symm.trans q4.2
          cases this
        · exact absurd q2.1 z2
    · exact ⟨ci, fs, q1, g.at q2 z⟩
  refine ⟨?_, ?_, ?_, ?_, ?_, ?_, ?_, ?_, ?_⟩
  · refine RXa.ext (n' := n9 n) (cp' := cp) R g.1 (fun k j hl => ?_) (fun k j k' j' hl hl' p1 p2 e => ?_) Ra.2.2.2.1 Ra.2.2.2.2.1 Ra.2.2.2.2.2.1 Ra.2.2.2.2.2.2.1 Ra.2.2.2.2.2.2.2.1 Ra.2.2.2.2.2.2.2.2
    · rcases hl with ⟨rfl, hj⟩ | ⟨hk, hj⟩ | ⟨hk, hj⟩ | ⟨hk, hj⟩ | ⟨hk, hj⟩ | ⟨rfl, hj, hj2, hc⟩ | ⟨rfl, hj, hc⟩
      · exact Or.inl ⟨ly0 hj, rfl⟩
      · rw [e9] at hj
        by_cases z : j = n 2
        · subst z
          rcases hq with ⟨w, rfl, rfl⟩ | ⟨w, w1, w2, w3⟩
          · refine Or.inl ⟨Or.inr (Or.inl ⟨hk, w⟩), ?_⟩
            rcases hk with rfl | rfl
            · exact yM1s
            · exact yM2s
          · refine Or.inr ?_
            rcases hk with rfl | rfl
            · rw [yM1s]; exact w1
            · rw [yM2s]; exact w2
        · have hj9 : j < n 9 := by
            rcases hq with ⟨w, _⟩ | ⟨w, _⟩
            · rw [if_pos w] at hj; exact hj
            · rw [if_neg (by omega)] at hj; omega
          refine Or.inl ⟨Or.inr (Or.inl ⟨hk, hj9⟩), ?_⟩
          rcases hk with rfl | rfl
          · exact yM1 z
          · exact yM2 z
      · refine Or.inl ⟨Or.inr (Or.inr (Or.inl ⟨hk, hj⟩)), ?_⟩
        rcases hk with rfl | rfl <;> rfl
      · refine Or.inl ⟨Or.inr (Or.inr (Or.inr (Or.inl ⟨hk, hj⟩))), ?_⟩
        rcases hk with rfl | rfl <;> rfl
      · refine Or.inl ⟨Or.inr (Or.inr (Or.inr (Or.inr (Or.inl ⟨hk, hj⟩)))), ?_⟩
        rcases hk with rfl | rfl <;> rfl
      · exact Or.inl ⟨ly15 hj hj2 hc, rfl⟩
      · exact Or.inl ⟨ly8 hj hc, rfl⟩
    · have key : ∀ {k j}, lyv (n9 n) cp k j → yM y n q b k j ∉ h.1 → (k = 1 ∨ k = 2) ∧ j = n 2 ∧ n 2 = n 9 ∧ q ≠ b := by
        intro k j hl hni
        have old : ∀ {k j}, lyv n cp k j → y k j ∈ h.1 := fun hl => R.lyin hl
        rcases hl with ⟨rfl, hj⟩ | ⟨hk, hj⟩ | ⟨hk, hj⟩ | ⟨hk, hj⟩ | ⟨hk, hj⟩ | ⟨rfl, hj, hj2, hc⟩ | ⟨rfl, hj, hc⟩
        · exact absurd (old (ly0 hj)) hni
        · rw [e9] at hj
          by_cases z : j = n 2
          · subst z
            rcases hq with ⟨w, rfl, rfl⟩ | ⟨w, w1, w2, w3⟩
            · exfalso
              rcases hk with rfl | rfl
              · exact hni (by rw [yM1s]; exact old (ly1 w))
              · exact hni (by rw [yM2s]; exact old (ly2 w))
            · exact ⟨hk, rfl, w, w3⟩
          · exfalso
            have hj9 : j < n 9 := by
              rcases hq with ⟨w, _⟩ | ⟨w, _⟩
              · rw [if_pos w] at hj; exact hj
              · rw [if_neg (by omega)] at hj; omega
            rcases hk with rfl | rfl
            · exact hni (by rw [yM1 z]; exact old (ly1 hj9))
            · exact hni (by rw [yM2 z]; exact old (ly2 hj9))
        · rcases hk with rfl | rfl
          · exact absurd (old (ly3 hj)) hni
          · exact absurd (old (ly9 hj)) hni
        · rcases hk with rfl | rfl
          · exact absurd (old (ly5 hj)) hni
          · exact absurd (old (ly7 hj)) hni
        · rcases hk with rfl | rfl
          · exact absurd (old (ly10 hj)) hni
          · exact absurd (old (ly11 hj)) hni
        · exact absurd (old (ly15 hj hj2 hc)) hni
        · exact absurd (old (ly8 hj hc)) hni
      obtain ⟨k1, rfl, _, hne⟩ := key hl p1
      obtain ⟨k2, rfl, _, _⟩ := key hl' p2
      refine ⟨?_, rfl⟩
      rcases k1 with rfl | rfl
      · rcases k2 with rfl | rfl
        · rfl
        · rw [yM1s, yM2s] at e; exact absurd e hne
      · rcases k2 with rfl | rfl
        · rw [yM1s, yM2s] at e; exact absurd e.symm hne
        · rfl
  · refine ⟨Rn.1, Rn.2.1, ⟨?_, ?_, ?_⟩, Rn.2.2.2⟩
    · show s.1 6 + 1 = nI (n 2 + 1)
      rw [hn.1, nI_1]
    · show n 2 + 1 ≤ n9 n 9
      rw [e9]
      by_cases w : n 2 < n 9
      · rw [if_pos w]; omega
      · rw [if_neg w]; omega
    · show n9 n 9 ≤ 60
      rw [e9]
      by_cases w : n 2 < n 9
      · rw [if_pos w]; omega
      · rw [if_neg w]; omega
  · obtain ⟨f0, f1, f2, f3, ⟨fw0, f4, f4'⟩, ⟨sz0, so0, nu0, f5⟩, ⟨g6, f6⟩, ⟨x7, y7, z7, f7⟩, -, ⟨g9, f9⟩, ⟨g10, f10⟩, ⟨g11, f11, f11'⟩⟩ := Rf
    exact ⟨k0 (by omega) (by omega) (by omega) (by omega) f0, k0 (by omega) (by omega) (by omega) (by omega) f1, k0 (by omega) (by omega) (by omega) (by omega) f2, m3, ⟨fw, m4, m5⟩, ⟨sz0, so0, nu0, k0 (by omega) (by omega) (by omega) (by omega) f5⟩, ⟨g6, k0 (by omega) (by omega) (by omega) (by omega) f6⟩, ⟨x7, y7, z7, k0 (by omega) (by omega) (by omega) (by omega) f7⟩, m6, ⟨g9, k0 (by omega) (by omega) (by omega) (by omega) f9⟩, ⟨g10, k0 (by omega) (by omega) (by omega) (by omega) f10⟩, ⟨g11, k0 (by omega) (by omega) (by omega) (by omega) f11, f11'⟩⟩
  · exact Rl.g g ho (fun k h1 h2 => fM.no R hq (ly0 h2) (by omega) (by omega)) (fun k h1 h2 h3 => fM.no R hq (ly15 h1 h2 h3) (by omega) (by omega)) (fun t ht => fM.no R hq (ly7 ht) (by omega) (by omega)) (fun t ht hc => fM.no R hq (ly8 ht hc) (by omega) (by omega))
  · intro j hj
    by_cases z : j = n 2
    · subst z
      refine ⟨so, nu, oso, onu, sz, f, ?_, ?_, fun _ => ⟨?_, ?_, ?_, ?_, ?_, fun i hi => ?_⟩⟩
      · rw [yM1s, yM2s]; exact m1
      · rw [yM2s]; exact m2
      · show so = upd (s.2.2.1 7) (s.1 6).toNatClampNeg so (n 2)
        rw [h6, pk_us]
      · show nu = upd (s.2.2.1 8) (s.1 6).toNatClampNeg nu (n 2)
        rw [h6, pk_us]
      · show oso = upd (s.2.2.1 9) (s.1 6).toNatClampNeg oso (n 2)
        rw [h6, pk_us]
      · show onu = upd (s.2.2.1 10) (s.1 6).toNatClampNeg onu (n 2)
        rw [h6, pk_us]
      · show sz = upd (s.2.2.1 11) (s.1 6).toNatClampNeg sz (n 2)
        rw [h6, pk_us]
      · exact hB i hi
    · have hj9 : j < n 9 := by
        rw [e9] at hj
        rcases hq with ⟨w, _⟩ | ⟨w, _⟩
        · rw [if_pos w] at hj; exact hj
        · rw [if_neg (by omega)] at hj; omega
      obtain ⟨a', b', c', d', sz', f', q1, q2, q3⟩ := Rm j hj9
      refine ⟨a', b', c', d', sz', f', ?_, ?_, fun hj2 => ?_⟩
      · rw [yM1 z, yM2 z]; exact ke (ly1 hj9) (by omega) (by omega) q1
      · rw [yM2 z]; exact ke (ly2 hj9) (by omega) (by omega) q2
      · have hj2 : j < n 2 := by
          have : j < n 2 + 1 := hj2
          omega
        obtain ⟨v1, v2, v3, v4, v5, v6⟩ := q3 hj2
        refine ⟨?_, ?_, ?_, ?_, ?_, fun i hi => ?_⟩
        · show a' = upd (s.2.2.1 7) (s.1 6).toNatClampNeg so j
          rw [h6, pk_un z]; exact v1
        · show b' = upd (s.2.2.1 8) (s.1 6).toNatClampNeg nu j
          rw [h6, pk_un z]; exact v2
        · show c' = upd (s.2.2.1 9) (s.1 6).toNatClampNeg oso j
          rw [h6, pk_un z]; exact v3
        · show d' = upd (s.2.2.1 10) (s.1 6).toNatClampNeg onu j
          rw [h6, pk_un z]; exact v4
        · show sz' = upd (s.2.2.1 11) (s.1 6).toNatClampNeg sz j
          rw [h6, pk_un z]; exact v5
        · have : sz'.toNatClampNeg ≤ 64 := by
            rw [v5]
            exact clamp_le (b := 64) (hsz j (by omega)) (by omega)
          rw [v6 i hi]
          exact (hB0 _ (by omega)).symm
  · exact Rc.g g (fun k hk => fM.no R hq (ly3 hk) (by omega) (by omega)) (fun k hk => fM.no R hq (ly9 hk) (by omega) (by omega)) hP
  · exact Rt.g g (fun k hk => fM.no R hq (ly5 hk) (by omega) (by omega)) hP
  · exact Rs.g g (fun k hk => fM.no R hq (ly10 hk) (by omega) (by omega)) (fun k hk => fM.no R hq (ly11 hk) (by omega) (by omega))
  · exact Rp.g g hP
/-- what a sending may cost -/
theorem s_send {k : Nat} {so nu oso onu : Int32} {gf : Nat → Int64} {kc ks : Nat} {Q : Int32 → Hp → Prop} (R : RXo E A h y s n cp) (hsz : ∀ j, j < 60 → s.2.2.1 11 j ≤ 64) (hk : 1 ≤ k ∧ k < 12) (hg : xh_at h (y 0 8) (.inl (E.1 1, 12, .inr (.inl gf)))) (hK : n 2 = n 9 → n 2 < 60 → 2 ≤ kc ∧ 70 ≤ ks)
    (h0 : n 2 = 60 → Q 0 h) (h1 : ∀ h' q b, n 2 < 60 → qb h y n q b → xg (fM y q b) h h' → (∀ B, (∀ i, i < szK k 11 → B (64 * n 2 + i) = wvT k gf 11 i) → (∀ a, a < 64 * n 2 → B a = s.2.2.1 12 a) → RXo E A h' (yM y n q b) (lieA s so nu oso onu (nI (szK k 11)) B) (n9 n) cp) → Q 1 h') : m_X10_send E (y 0 1) (nI k) so nu oso onu h kc ks Q := by
  obtain ⟨f0, f1, f2, f3, f4, f5, f6, f7, ⟨x8, y8, z8, f8⟩, -⟩ := id R.2.2.1
  refine gR_of f1 rfl (nN_of (isO_of f3 (cK_of kc ks (Nat.le_refl _) (Nat.le_refl _) (s_wadd R hK (fun q => ⟨fun _ => h0 q, fun a z => (by cases z)⟩) (fun h2 q b sz f fw h60 hq m1 m2 m3 m4 m5 gA => ?_)))))
  refine ⟨fun z => (by cases z), fun a z => ?_⟩
  cases z
  have g := fA.m gA
  have l1 := g.at f1 (fM.no R hq (ly0 (by omega)) (by omega) (by omega))
  have l8 := g.at hg (fM.no R hq (ly0 (by omega)) (by omega) (by omega))
  have n6 : y 0 6 ≠ q ∧ y 0 6 ≠ b := by
    rcases hq with ⟨w, rfl, rfl⟩ | ⟨w, w1, w2, w3⟩
    · exact ⟨R.1.ne (ly0 (by omega)) (ly1 w) (by omega), R.1.ne (ly0 (by omega)) (ly2 w) (by omega)⟩
    · exact ⟨f8.fresh w1, f8.fresh w2⟩
  have l6 := gA.at f8 (by
    rintro (e | e | e | e)
    · exact R.1.ne (ly0 (by omega)) (ly0 (by omega)) (by omega) e
    · exact R.1.ne (ly0 (by omega)) (ly0 (by omega)) (by omega) e
    · exact n6.1 e
    · exact n6.2 e)
  refine gR_of l1 rfl (nN_of (pV_of l6 (by show 0 < 4; decide) ?_))
  have n61 : y 0 1 ≠ y 0 6 := R.1.ne (ly0 (by omega)) (ly0 (by omega)) (by omega)
  have n68 : y 0 8 ≠ y 0 6 := R.1.ne (ly0 (by omega)) (ly0 (by omega)) (by omega)
  have m1' := m1.ne (e' := .inr (3, [.int (nI k), .int y8, .int z8, .ref (y 0 8)])) (fun z => n6.1 z.symm)
  refine gR_of (l1.ne n61) rfl (isO_of m1' (s_write hk m1' (m2.ne (fun z => n6.2 z.symm)) l6.set (l8.ne n68) (fun h3 f3' p1 p2 p3 p4 => ?_)))
  have g3 : xg (fM y q b) h h3 := (g.tr (xg.set (Or.inr (Or.inr (Or.inl rfl))))).tr (p4.mono (fun x _ z => z.elim (fun z => Or.inr (Or.inr (Or.inr (Or.inl z)))) (fun z => Or.inr (Or.inr (Or.inr (Or.inr z))))))
  have n3 : y 0 3 ≠ q ∧ y 0 3 ≠ b := ⟨m3.neq m1 (by intro z; injection z with z; injection z with z; omega), m3.neq m2 (by intro z; cases z)⟩
  have n10 : y 0 10 ≠ q ∧ y 0 10 ≠ b := ⟨m4.neq m1 (by intro z; cases z), m4.neq m2 (by intro z; injection z with z; injection z with z1 z2; injection z2 with z2 z3; cases z3)⟩
  refine h1 h3 q b h60 hq g3 (fun B b1 b2 => R.msg h60 hq hsz p1 p2 (p4.at (m3.ne (R.1.ne (ly0 (by omega)) (ly0 (by omega)) (by omega))) (fun z => z.elim n3.1 n3.2)) (p4.at (m4.ne (R.1.ne (ly0 (by omega)) (ly0 (by omega)) (by omega))) (fun z => z.elim n10.1 n10.2)) m5 ⟨_, _, _, p4.at l6.set (fun z => z.elim n6.1 n6.2)⟩ g3 (fun i hi => ?_) b2)
  have hs := szK_le k hk.2 11 (by omega)
  rw [nI_clamp (by omega)] at hi
  rw [p3 i hi, b1 i hi]
end SEND
