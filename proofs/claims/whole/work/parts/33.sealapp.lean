/-! a seal more -/
def Fc (n : Nat → Nat) : Nat := 4 * (2048 - n 4) + 2 * (60 - n 9)
def Fs (n cp : Nat → Nat) : Nat := 20 * (2048 - n 4) + 70 * (60 - n 9) + (491520 - 4 * cpS cp)
theorem cpS_le {cp : Nat → Nat} (h : ∀ j, cp j ≤ 8192) : cpS cp ≤ 122880 := by
  unfold cpS
  have a12 := h 12; have a13 := h 13; have a14 := h 14; have a15 := h 15; have a16 := h 16; have a17 := h 17; have a18 := h 18
  have a20 := h 20; have a21 := h 21; have a22 := h 22; have a23 := h 23; have a24 := h 24; have a25 := h 25; have a26 := h 26; have a27 := h 27
  omega
section SEALA
variable {E : Ev} {A : Nat → Prop} {h h0 h' : Hp} {y : Nat → Nat → Nat} {s : MS} {n cp : Nat → Nat} {so nu : Nat} {l : List Int64}
theorem s_copyL {a m kc ks : Nat} {f : Nat → Int64} {Q : Option Nat → Hp → Prop} (ha : xh_at h a (.inl (E.1 1, 8, .inr (.inl f)))) (hm : m ≤ 8) (hk : 1 ≤ kc ∧ m ≤ ks) (hQ : ∀ h' b f', b ∉ h.1 → xh_at h' b (.inl (E.1 1, m, .inr (.inl f'))) → (∀ i, i < m → f' i = f i) → xg (fun _ => False) h h' → Q (some b) h') : m_J7_copyOf_c38d5 E (some a) (nI m) h kc ks Q := by
  refine nN_of ⟨nI 8, Or.inl ⟨1, _, _, rfl, ha, rfl⟩, fun q => ?_, fun q => ?_⟩
  · have : m = 8 := (nI_eq (by omega) (by omega)).mp q
    subst this
    refine ⟨8, f, kc - 1, ks - 8, ha, by omega, by omega, fun b h1 hb e1 => ?_⟩
    subst e1
    exact ⟨⟨_, xh_at.newq⟩, hQ _ b f hb xh_at.newq (fun _ _ => rfl) (xg.new hb)⟩
  · refine ⟨m, kc - 1, ks - m, nI_pos (by omega), nI_clamp (by omega), by omega, by omega, by omega, fun b h1 hb e1 => ?_⟩
    have ha1 : xh_at h1 a (.inl (E.1 1, 8, .inr (.inl f))) := by rw [e1]; exact ha.new hb
    have hb1 : xh_at h1 b (.inl (E.1 1, m, .inr (.inl (fun _ => 0)))) := by rw [e1]; exact xh_at.newq
    have hm8 : m < 8 := by
      rcases Nat.lt_or_ge m 8 with z | z
      · exact z
      · exact absurd (by rw [show m = 8 by omega]) q
    refine ⟨nI 8, Or.inl ⟨1, _, _, rfl, ha1, rfl⟩, fun x13 e13 => ?_⟩
    have e13' : x13 = nI m := by rw [e13, if_pos (nI_lt hm8 (by omega))]
    subst e13'
    refine ⟨8, m, f, _, ha1, hb1, by decide, by decide, nI_pos (by omega), ?_, ?_, fun h2 e2 => ?_⟩
    · rw [nI_clamp (by omega)]; show 0 + m ≤ 8; omega
    · rw [nI_clamp (by omega)]; show 0 + m ≤ m; omega
    · have g1 : xg (fun _ => False) h h1 := by rw [e1]; exact xg.new hb
      subst e2
      refine hQ _ b _ hb hb1.set (fun i hi => ?_) (g1.setn hb)
      rw [nI_clamp (by omega)]
      show va_cpy f (fun _ => 0) 0 0 m i = f i
      rw [pk_cpy_in (by omega) (by omega)]
      congr 1; omega
def yS (y : Nat → Nat → Nat) (n : Nat → Nat) (q b d : Nat) : Nat → Nat → Nat := up2 (up2 (up2 y 10 (n 4) q) 11 (n 4) b) 15 16 d
/-- the relation behind a seal more -/
theorem RXo.seal (R : RXo E A h y s n cp) {h1 : Hp} {q b d c : Nat} {f : Nat → Int64} {g : Nat → Int64} {rs : Nat} (hn4 : n 4 < 2048) (hso : so ≤ 2) (hnu : nu ≤ 255) (hrs : rs ≤ 8)
    (g1 : xg (fun _ => False) h h1) (hq : q ∉ h.1) (hb : b ∉ h.1) (hqb : q ≠ b) (q1 : xh_at h1 q (.inr (7, [.int (nI so), .int (nI nu), .ref b]))) (b1 : xh_at h1 b (.inl (E.1 1, rs, .inr (.inl f)))) (hf : ∀ i, i < rs → f i = g i)
    (g2 : xg (alS (y 0 16) (y 15 16) (cp 16)) h1 h') (al : AL E h' (y 0 16) d (n 4 + 1) c (va_up (y 10) (n 4) q)) (hd : (n 4 < cp 16 ∧ d = y 15 16 ∧ c = cp 16) ∨ (n 4 = cp 16 ∧ d ∉ h1.1 ∧ c = al_cap (cp 16))) :
    RXo E A h' (yS y n q b d) (sealN s (nI (256 * so + nu)) rs g) (va_up n 4 (n 4 + 1)) (va_up cp 16 c) ∧ xg A h h' ∧ xg (YS y n cp (fun k j => (k = 0 ∨ k = 15) ∧ j = 16)) h h' := by
  have R1 : RXo E A h1 y s n cp := R.k ⟨g1.1, fun a ha _ => g1.2 a ha (fun z => z)⟩
  obtain ⟨Ra, Rn, Rf, Rl, Rm, Rc, Rt, Rs, Rp⟩ := id R1
  obtain ⟨Pf, Pl, Pb, Pm, Pc, Pt, Ps, Pp, PA, Po⟩ := R1.app (j0 := 16) (by omega) (by omega) g2
  have h0' : (s.1 0).toNatClampNeg = n 4 := by rw [Rn.2.2.2.2.1, nI_clamp (by omega)]
  have hd1 : d ∉ h1.1 → d ∉ h.1 := fun z w => z (g1.1 d w)
  refine ⟨⟨?_, ?_, Pf, ?_, Pm, Pc, Pt, ?_, Pp⟩, (g1.mono (fun _ _ z => z.elim)).tr PA, ?_⟩
  · refine RXa.ext (n' := va_up n 4 (n 4 + 1)) (cp' := va_up cp 16 c) R (fun a z => g2.1 a (g1.1 a z)) (fun k j hl => ?_) (fun k j k' j' hl hl' p1 p2 e => ?_) Ra.2.2.2.1 Ra.2.2.2.2.1 Ra.2.2.2.2.2.1 Ra.2.2.2.2.2.2.1 Ra.2.2.2.2.2.2.2.1 Ra.2.2.2.2.2.2.2.2
    · rcases hl with ⟨rfl, hj⟩ | ⟨hk, hj⟩ | ⟨hk, hj⟩ | ⟨hk, hj⟩ | ⟨hk, hj⟩ | ⟨rfl, hj, hj2, hc⟩ | ⟨rfl, hj, hc⟩
      · exact Or.inl ⟨ly0 hj, rfl⟩
      · refine Or.inl ⟨Or.inr (Or.inl ⟨hk, hj⟩), ?_⟩
        rcases hk with rfl | rfl <;> rfl
      · refine Or.inl ⟨Or.inr (Or.inr (Or.inl ⟨hk, hj⟩)), ?_⟩
        rcases hk with rfl | rfl <;> rfl
      · refine Or.inl ⟨Or.inr (Or.inr (Or.inr (Or.inl ⟨hk, hj⟩))), ?_⟩
        rcases hk with rfl | rfl <;> rfl
      · have hj' : j < n 4 + 1 := hj
        by_cases z : j = n 4
        · subst z
          refine Or.inr ?_
          rcases hk with rfl | rfl
          · show va_up (y 10) (n 4) q (n 4) ∉ h.1
            rw [va_up_self]; exact hq
          · show va_up (y 11) (n 4) b (n 4) ∉ h.1
            rw [va_up_self]; exact hb
        · refine Or.inl ⟨Or.inr (Or.inr (Or.inr (Or.inr (Or.inl ⟨hk, by omega⟩)))), ?_⟩
          rcases hk with rfl | rfl
          · show va_up (y 10) (n 4) q j = _
            rw [va_up_ne _ _ z]
          · show va_up (y 11) (n 4) b j = _
            rw [va_up_ne _ _ z]
      · by_cases z : j = 16
        · subst z
          rcases hd with ⟨w1, w2, w3⟩ | ⟨w1, w2, w3⟩
          · refine Or.inl ⟨ly15 hj hj2 (by omega), ?_⟩
            show va_up (y 15) 16 d 16 = _
            rw [va_up_self, w2]
          · refine Or.inr ?_
            show va_up (y 15) 16 d 16 ∉ h.1
            rw [va_up_self]; exact hd1 w2
        · refine Or.inl ⟨ly15 hj hj2 (by rw [va_up_ne _ _ z] at hc; exact hc), ?_⟩
          show va_up (y 15) 16 d j = _
          rw [va_up_ne _ _ z]
      · refine Or.inl ⟨ly8 hj (by rw [va_up_ne _ _ (by omega)] at hc; exact hc), rfl⟩
    · have key : ∀ {k j}, lyv (va_up n 4 (n 4 + 1)) (va_up cp 16 c) k j → yS y n q b d k j ∉ h.1 → (k = 10 ∧ j = n 4) ∨ (k = 11 ∧ j = n 4) ∨ (k = 15 ∧ j = 16 ∧ d ∉ h1.1) := by
        intro k j hl hni
        have old : ∀ {k j}, lyv n cp k j → y k j ∈ h.1 := fun hl => R.lyin hl
        rcases hl with ⟨rfl, hj⟩ | ⟨hk, hj⟩ | ⟨hk, hj⟩ | ⟨hk, hj⟩ | ⟨hk, hj⟩ | ⟨rfl, hj, hj2, hc⟩ | ⟨rfl, hj, hc⟩
        · exact absurd (old (ly0 hj)) hni
        · rcases hk with rfl | rfl
          · exact absurd (old (ly1 hj)) hni
          · exact absurd (old (ly2 hj)) hni
        · rcases hk with rfl | rfl
          · exact absurd (old (ly3 hj)) hni
          · exact absurd (old (ly9 hj)) hni
        · rcases hk with rfl | rfl
          · exact absurd (old (ly5 hj)) hni
          · exact absurd (old (ly7 hj)) hni
        · have hj' : j < n 4 + 1 := hj
          by_cases z : j = n 4
          · rcases hk with rfl | rfl
            · exact Or.inl ⟨rfl, z⟩
            · exact Or.inr (Or.inl ⟨rfl, z⟩)
          · exfalso
            rcases hk with rfl | rfl
            · exact hni (by show va_up (y 10) (n 4) q j ∈ _; rw [va_up_ne _ _ z]; exact old (ly10 (by omega)))
            · exact hni (by show va_up (y 11) (n 4) b j ∈ _; rw [va_up_ne _ _ z]; exact old (ly11 (by omega)))
        · by_cases z : j = 16
          · subst z
            rcases hd with ⟨w1, w2, w3⟩ | ⟨w1, w2, w3⟩
            · exact absurd (by show va_up (y 15) 16 d 16 ∈ _; rw [va_up_self, w2]; exact old (ly15 hj hj2 (by omega))) hni
            · exact Or.inr (Or.inr ⟨rfl, rfl, w2⟩)
          · exact absurd (by show va_up (y 15) 16 d j ∈ _; rw [va_up_ne _ _ z]; exact old (ly15 hj hj2 (by rw [va_up_ne _ _ z] at hc; exact hc))) hni
        · exact absurd (old (ly8 hj (by rw [va_up_ne _ _ (by omega)] at hc; exact hc))) hni
      have vq : yS y n q b d 10 (n 4) = q := by show va_up (y 10) (n 4) q (n 4) = _; rw [va_up_self]
      have vb : yS y n q b d 11 (n 4) = b := by show va_up (y 11) (n 4) b (n 4) = _; rw [va_up_self]
      have vd : yS y n q b d 15 16 = d := by show va_up (y 15) 16 d 16 = _; rw [va_up_self]
      rcases key hl p1 with ⟨rfl, rfl⟩ | ⟨rfl, rfl⟩ | ⟨rfl, rfl, hw⟩ <;> rcases key hl' p2 with ⟨rfl, rfl⟩ | ⟨rfl, rfl⟩ | ⟨rfl, rfl, hw'⟩
      · exact ⟨rfl, rfl⟩
      · rw [vq, vb] at e; exact absurd e hqb
      · rw [vq, vd] at e; exact absurd (by rw [← e]; exact q1.1) hw'
      · rw [vq, vb] at e; exact absurd e.symm hqb
      · exact ⟨rfl, rfl⟩
      · rw [vb, vd] at e; exact absurd (by rw [← e]; exact b1.1) hw'
      · rw [vq, vd] at e; exact absurd (by rw [e]; exact q1.1) hw
      · rw [vb, vd] at e; exact absurd (by rw [e]; exact b1.1) hw
      · exact ⟨rfl, rfl⟩
  · obtain ⟨r0, r1, r2, r3, r4, r5, r6, r7, r8, r9, r10⟩ := Rn
    refine ⟨r0, r1, r2, r3, ?_, r5, r6, r7, r8, ⟨r9.1, ?_, r9.2.2⟩, fun j => ?_⟩
    · show s.1 0 + 1 = nI (n 4 + 1)
      rw [r4, nI_1]
    · show n 4 + 1 ≤ 2048; omega
    · by_cases z : j = 16
      · subst z
        rw [va_up_self]
        rcases hd with ⟨w1, w2, w3⟩ | ⟨w1, w2, w3⟩
        · rw [w3]; exact r10 16
        · rw [w3]; unfold al_cap; split <;> omega
      · rw [va_up_ne _ _ z]; exact r10 j
  · obtain ⟨l0, l1, l2, l3, l4, l5, l6, l7⟩ := Rl
    refine ⟨Pl 12 _ _ (by omega) (by omega) (by omega) l0, Pl 13 _ _ (by omega) (by omega) (by omega) l1, Pl 14 _ _ (by omega) (by omega) (by omega) l2, Pl 15 _ _ (by omega) (by omega) (by omega) l3, al, Pl 17 _ _ (by omega) (by omega) (by omega) l5, Pl 18 _ _ (by omega) (by omega) (by omega) l6, fun t ht => ?_, fun t ht => (va_up_ne _ _ (by omega)).trans (l7.2 t ht)⟩
    have := Pb t ht _ _ (l7.1 t ht)
    rw [← show va_up cp 16 c (20 + t) = cp (20 + t) from va_up_ne _ _ (by omega)] at this
    exact this
  · intro j hj
    have hj' : j < n 4 + 1 := hj
    by_cases z : j = n 4
    · subst z
      have nq : ¬ alS (y 0 16) (y 15 16) (cp 16) q := by
        rintro (e | ⟨e, e2⟩)
        · exact hq (by rw [e]; exact R.lyin (ly0 (by omega)))
        · exact hq (by rw [e]; exact R.lyin (ly15 (by omega) (by omega) e2))
      have nb : ¬ alS (y 0 16) (y 15 16) (cp 16) b := by
        rintro (e | ⟨e, e2⟩)
        · exact hb (by rw [e]; exact R.lyin (ly0 (by omega)))
        · exact hb (by rw [e]; exact R.lyin (ly15 (by omega) (by omega) e2))
      refine ⟨so, nu, rs, f, ?_, ?_, ?_, ?_, hso, hnu, hrs, fun i hi => ?_⟩
      · show xh_at h' (va_up (y 10) (n 4) q (n 4)) (.inr (7, [_, _, .ref (va_up (y 11) (n 4) b (n 4))]))
        rw [va_up_self, va_up_self]
        exact g2.at q1 nq
      · show xh_at h' (va_up (y 11) (n 4) b (n 4)) _
        rw [va_up_self]
        exact g2.at b1 nb
      · show upd (s.2.2.1 1) (s.1 0).toNatClampNeg (nI (256 * so + nu)) (n 4) = _
        rw [h0', pk_us]
      · show upd (s.2.2.1 2) (s.1 0).toNatClampNeg (nI rs) (n 4) = _
        rw [h0', pk_us]
      · show f i = (if 12 * (s.1 0).toNatClampNeg ≤ 12 * n 4 + i ∧ 12 * n 4 + i < 12 * (s.1 0).toNatClampNeg + rs then g (12 * n 4 + i - 12 * (s.1 0).toNatClampNeg) else s.2.2.2 3 (12 * n 4 + i))
        rw [h0', if_pos (by omega), hf i hi]
        congr 1; omega
    · obtain ⟨so', nu', len', f', s1, s2, s3, s4, s5, s6, s7, s8⟩ := Ps j (by omega)
      refine ⟨so', nu', len', f', ?_, ?_, ?_, ?_, s5, s6, s7, fun i hi => ?_⟩
      · show xh_at h' (va_up (y 10) (n 4) q j) (.inr (7, [_, _, .ref (va_up (y 11) (n 4) b j)]))
        rw [va_up_ne _ _ z, va_up_ne _ _ z]; exact s1
      · show xh_at h' (va_up (y 11) (n 4) b j) _
        rw [va_up_ne _ _ z]; exact s2
      · show upd (s.2.2.1 1) (s.1 0).toNatClampNeg (nI (256 * so + nu)) j = _
        rw [h0', pk_un z]; exact s3
      · show upd (s.2.2.1 2) (s.1 0).toNatClampNeg (nI rs) j = _
        rw [h0', pk_un z]; exact s4
      · show f' i = (if 12 * (s.1 0).toNatClampNeg ≤ 12 * j + i ∧ 12 * j + i < 12 * (s.1 0).toNatClampNeg + rs then g (12 * j + i - 12 * (s.1 0).toNatClampNeg) else s.2.2.2 3 (12 * j + i))
        rw [h0', if_neg (by omega)]
        exact s8 i hi
  · refine (g1.mono (fun _ _ z => z.elim)).tr (g2.mono (fun x _ z => ?_))
    rcases z with rfl | ⟨rfl, e2⟩
    · exact ⟨0, 16, ly0 (by omega), ⟨Or.inl rfl, rfl⟩, rfl⟩
    · exact ⟨15, 16, ly15 (by omega) (by omega) e2, ⟨Or.inr rfl, rfl⟩, rfl⟩
end SEALA
