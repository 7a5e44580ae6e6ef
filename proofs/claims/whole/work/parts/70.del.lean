/-! deliver, both -/
section DEL
variable {E : Ev} {A S : Nat → Prop} {h h' : Hp} {y y' : Nat → Nat → Nat} {s s' : MS} {n cp n' cp' : Nat → Nat} {i u k m kc ks sz : Nat} {r : Int32} {F f : Nat → Int32} {kd fs fr : Int32} {cf gf : Nat → Int64}
def delR (E : Ev) (a0 a11 a5 : Nat) (h19 : Hp) (kc ks : Nat) (Q : Int32 → Hp → Prop) : Prop := gI h19 a11 5 2 fun x22 =>
 br (x22 = 2) (gR h19 a0 12 1 fun r88 =>
 nN r88 fun a96 => isO h19 a96 4 (cK kc ks fun mc90 ms91 kc92 ks93 => m_X3_takes E a96 (some a5) h19 mc90 ms91 (fun x94 h95 =>
 m_X11_deliver_L158 E x94 h95 kc92 ks93 Q))) (gI h19 a11 5 2 fun x25 =>
 br (x25 = 1) (gR h19 a0 12 0 fun r58 =>
 gI h19 a11 5 3 fun x60 =>
 nN r58 fun a64 => isO h19 a64 11 (m_X10_isTerminal E a64 x60 h19 0 0 (fun x62 h63 =>
 br (x62 = 0) (m_X11_deliver_L107 E h63 kc ks Q) (gR h63 a0 12 0 fun r67 =>
 nN r67 fun a69 => gR h63 a69 11 3 fun r70 =>
 gI h63 a11 5 3 fun x72 =>
 nN r70 fun a76 => isO h63 a76 0 (m_Jx4a65c_get_915e3 E a76 x72 h63 0 0 (fun r74 h75 =>
 nN r74 fun a78 => isO h75 a78 9 (isO h75 a78 9 (cK kc ks fun mc80 ms81 kc82 ks83 => m_X8_takes E a78 (some a5) h75 mc80 ms81 (fun x84 h85 =>
 br (x84 = 0) (m_X11_deliver_L107 E h85 kc82 ks83 Q) (m_X11_deliver_L108 E 1 h85 kc82 ks83 Q)))))))))) (gR h19 a0 12 0 fun r28 =>
 gI h19 a11 5 3 fun x30 =>
 nN r28 fun a34 => isO h19 a34 11 (m_X10_isCard E a34 x30 h19 0 0 (fun x32 h33 =>
 br (x32 = 0) (m_X11_deliver_L155 E h33 kc ks Q) (gR h33 a0 12 0 fun r37 =>
 nN r37 fun a39 => gR h33 a39 11 2 fun r40 =>
 gI h33 a11 5 3 fun x42 =>
 nN r40 fun a46 => isO h33 a46 0 (m_Jx4a65c_get_915e3 E a46 x42 h33 0 0 (fun r44 h45 =>
 nN r44 fun a48 => isO h45 a48 2 (isO h45 a48 2 (cK kc ks fun mc50 ms51 kc52 ks53 => m_X1_takes E a48 (some a5) h45 mc50 ms51 (fun x54 h55 =>
 br (x54 = 0) (m_X11_deliver_L155 E h55 kc52 ks53 Q) (m_X11_deliver_L156 E 1 h55 kc52 ks53 Q)))))))))))
def bit01 (r : Int32) : Int32 := if r = 0 then 0 else 1
theorem dl01 {r : Int32} {s : MS} {P : Int32 → MS → Prop} (hp : P (bit01 r) s) : Mw (if r = 0 then M_deliver_L153 s else M_deliver_L149 s) P := by
  unfold M_deliver_L153 M_deliver_L149 M_deliver_L154
  unfold bit01 at hp
  by_cases z : r = 0
  · rw [if_pos z] at hp ⊢
    rw [if_pos rfl]
    exact Mw.r hp
  · rw [if_neg z] at hp ⊢
    rw [if_neg (by decide)]
    exact Mw.r hp
theorem M_toTerminal_01 {a k : Int32} {s : MS} : M01 (M_toTerminal s a k) := by
  have hE : ∀ (s : MS) (w0 w1 : Int32), M01 (M_toTerminal_L225 s w0 w1) := fun s w0 w1 => by unfold M_toTerminal_L225; exact M01.b (fun _ => M01.s1)
  have h213 : ∀ (s : MS) (a w0 : Int32), M01 (M_toTerminal_L213 s a w0) := fun s a w0 => by unfold M_toTerminal_L213; exact M01.it (hE _ _ _) (hE _ _ _)
  have h212 : ∀ (s : MS) (a : Int32), M01 (M_toTerminal_L212 s a) := fun s a => by unfold M_toTerminal_L212; exact h213 _ _ _
  have h111 : ∀ (s : MS) (a : Int32), M01 (M_toTerminal_L111 s a) := fun s a => by
    unfold M_toTerminal_L111
    dsimp only [lt1]
    repeat (first | exact h212 _ _ | exact h213 _ _ _ | exact M01.no | refine M01.it M01.no ?_ | refine M01.b (fun _ => ?_) | refine M01.it (h212 _ _) ?_ | refine M01.it ?_ (h212 _ _))
  unfold M_toTerminal
  refine M01.it M01.no (M01.it (M01.it (M01.b (fun _ => M01.s1)) (M01.it (M01.it M01.no (M01.it (M01.it M01.no (M01.b (fun _ => M01.s1))) (M01.b (fun _ => M01.s1)))) (M01.it (M01.b (fun _ => M01.s1)) (M01.it (M01.b (fun px => ?_)) (h111 _ _))))) M01.s0)
  intro r s' e
  unfold lt1 at e
  dsimp only at e
  by_cases z : px.1 = 0 ∨ px.1 = 1
  · rw [if_pos z] at e
    cases e
    exact z
  · rw [if_neg z] at e
    cases e
theorem J_del (R : RXo E A h y s n cp) (w : W2 i (2 * i) s n) (hi : i < 512) (hk : k < n 2) : Mw (M_deliver s (nI k)) (JP E A h y n cp (i + 1) (2 * i + 2) (fun kc ks Q => m_X11_deliver E (y 0 0) (nI k) h kc ks Q)) := by
  have hn := R.2.1.2.2.1
  have hn0 := R.2.1.1.2
  have hn1 := R.2.1.2.1.2
  obtain ⟨m, hm⟩ : ∃ m, n 2 = m + 1 := ⟨n 2 - 1, by omega⟩
  have hm' : n 2 - 1 = m := by omega
  obtain ⟨f', e, hf'⟩ := M_deliver_eq R.2.1 hk
  rw [e]
  unfold dlT
  have e6 : (f15 (hdS s (s.2.2.1 7 k) (s.2.2.1 8 k) (s.2.2.1 11 k)) f').1 6 = nI (n 2) := hn.1
  have eR := M_remove_eq (s := f15 (hdS s (s.2.2.1 7 k) (s.2.2.1 8 k) (s.2.2.1 11 k)) f') (k := k) e6 (by omega) hk
  rw [hm'] at eR
  have hv := vis_hd s (s.2.2.1 7 k) (s.2.2.1 8 k) (s.2.2.1 11 k) f' k m
  have e13 : (remS (f15 (hdS s (s.2.2.1 7 k) (s.2.2.1 8 k) (s.2.2.1 11 k)) f') k m).1 13 = s.2.2.1 7 k := rfl
  have e14 : (remS (f15 (hdS s (s.2.2.1 7 k) (s.2.2.1 8 k) (s.2.2.1 11 k)) f') k m).1 14 = s.2.2.1 8 k := rfl
  have e16 : (remS (f15 (hdS s (s.2.2.1 7 k) (s.2.2.1 8 k) (s.2.2.1 11 k)) f') k m).1 16 = s.2.2.1 11 k := rfl
  have e15 : (remS (f15 (hdS s (s.2.2.1 7 k) (s.2.2.1 8 k) (s.2.2.1 11 k)) f') k m).2.2.1 15 = f' := rfl
  generalize remS (f15 (hdS s (s.2.2.1 7 k) (s.2.2.1 8 k) (s.2.2.1 11 k)) f') k m = sR at eR hv e13 e14 e15 e16
  refine Mw.bv (Mv.e eR ?_)
  obtain ⟨z0, hz0, ez0⟩ := w.2.2.2.1 k (by omega)
  obtain ⟨b0, hb0, eb0⟩ := w.2.1 (64 * k) (by omega)
  have hF0 : (fun a => s.2.2.1 12 (64 * k + a)) 0 = nI b0 := eb0
  obtain ⟨a, b, c, d, szv, f, m1, m2, m3⟩ := R.2.2.2.2.1 k (by omega)
  obtain ⟨q1, q2, q3, q4, q5, q6⟩ := m3 hk
  subst q1 q2 q3 q4
  rw [q5, ez0] at m1
  have hfF : ∀ x, x < z0 → f x = (fun a => s.2.2.1 12 (64 * k + a)) x := fun x hx => q6 x (by rw [q5, ez0, nI_clamp (by omega)]; exact hx)
  -- the class, up to the end of read
  obtain ⟨h1, R1, gS, g1, w1⟩ := e_takeOff R w.sz hk
  rw [hm'] at R1
  have no1 : ∀ {a j}, lyv n cp a j → ¬ (a = 0 ∧ (j = 3 ∨ j = 10)) → ¬ (y a j = y 0 3 ∨ y a j = y 0 10) := by
    intro a j hl hn z
    rcases z with z | z
    · exact R.1.ne hl (ly0 (by omega)) (by omega) z
    · exact R.1.ne hl (ly0 (by omega)) (by omega) z
  have m1' := gS.at m1 (no1 (ly1 (by omega)) (by omega))
  have m2' := gS.at m2 (no1 (ly2 (by omega)) (by omega))
  obtain ⟨f0, f1, -⟩ := id R.2.2.1
  obtain ⟨f0', f1', -⟩ := id R1.2.2.1
  obtain ⟨r1, r0⟩ := e_read (F := fun a => s.2.2.1 12 (64 * k + a)) (b0 := b0) R1 m1' m2' hz0 hfF hF0 hb0
  have y05 : yO y k m 0 5 = y 0 5 := rfl
  rw [y05] at r1 r0
  have wR : W2 i (2 * i) sR (va_up n 2 m) := (w.off hm (by omega)).eqv hv
  have okF : ∀ a, a < 64 → okB ((fun a => s.2.2.1 12 (64 * k + a)) a) := fun a ha => w.2.1 (64 * k + a) (by omega)
  have head : ∀ (kc ks : Nat) (Q : Int32 → Hp → Prop), m_X4_read E (y 1 k) (some (y 0 5)) h1 0 0 (fun x18 h19 => br (x18 = 0) (Q 0 h19) (delR E (y 0 0) (y 1 k) (y 0 5) h19 kc ks Q)) → m_X11_deliver E (y 0 0) (nI k) h kc ks Q := fun kc ks Q hm => gR_of f0 rfl (nN_of (gR_of f1 rfl (nN_of (isO_of R.2.2.1.2.2.2.1 (w1 0 0 _ ⟨fun e => (by cases e), fun a ea => by
    cases ea
    exact gR_of f0' rfl (nN_of (gR_of f1' rfl (isO_of m1' hm)))⟩)))))
  refine Mw.b ((M_read_spec (F := fun a => s.2.2.1 12 (64 * k + a)) (s := sR) (sz := z0) (b0 := b0) (fun a ha => by rw [e15]; exact hf' a ha) (e16.trans ez0) hz0 hF0 hb0).m (fun rr s1 hq => ?_))
  obtain ⟨g', rfl, p1, p0⟩ := hq
  dsimp only
  have vR : vis (g17 sR g') = vis (remS s k m) := (vis_g17 _ _).trans hv
  by_cases ok : 1 ≤ b0 ∧ b0 ≤ 11 ∧ rok (fun a => s.2.2.1 12 (64 * k + a)) z0 b0 0
  rotate_left
  · have := p0 ok
    subst this
    obtain ⟨h2, R2, g2, w2⟩ := r0 ok
    have := dl01 (r := 0) (s := g17 sR g') (P := JP E A h y n cp (i + 1) (2 * i + 2) (fun kc ks Q => m_X11_deliver E (y 0 0) (nI k) h kc ks Q)) ⟨va_up n 2 m, cp, (wR.eqv (vis_g17 _ _)).mono (by omega) (by omega), Nat.le_refl _, Nat.le_refl _, fun kc ks _ _ Q hQ => head kc ks Q (w2 0 0 _ ⟨fun _ => hQ h2 _ (R2.eqv vR) rfl (g1.tr g2), fun z => absurd rfl z⟩)⟩
    rw [if_pos rfl] at this
    exact Mw.y rfl this
  obtain ⟨o1, o2, o3⟩ := ok
  obtain ⟨hrr, hg'⟩ := p1 o1 o2 o3
  subst hrr
  obtain ⟨h2, cf, gf, X2, q2, hcf, g2, w2⟩ := r1 o1 o2 o3
  refine Mw.no (nI_ne0 (by omega) (by omega)) ?_
  have X := X2.eqv (s' := g17 sR g') vR
  have wG : W2 i (2 * i) (g17 sR g') (va_up n 2 m) := wR.eqv (vis_g17 _ _)
  obtain ⟨ad1, ad2⟩ := w.2.2.2.2.1 k hk
  have ad1' : Ad (va_up n 2 m) (s.2.2.1 7 k) (s.2.2.1 8 k) := ad1
  obtain ⟨hFD, hF1⟩ := fdl (F := fun a => s.2.2.1 12 (64 * k + a)) (b0 := b0) (s := g17 sR g') (cf := cf) (by omega) okF hcf (fun j hj hh => by rw [g17_17]; exact hg' j hj hh)
  have m13 : (g17 sR g').1 13 = s.2.2.1 7 k := e13
  have m14 : (g17 sR g').1 14 = s.2.2.1 8 k := e14
  have eFc : Fc (va_up n 2 m) = Fc n := rfl
  have eFs : ∀ c, Fs (va_up n 2 m) c = Fs n c := fun _ => rfl
  -- from a taker to the whole call
  have fin : ∀ (XX : Nat → Nat → (Int32 → Hp → Prop) → Prop) (r1 : Int32) (s1 : MS) (u : Nat), u ≤ 2 * i + 2 → JP E A h2 (yO y k m) (va_up n 2 m) cp (i + 1) u XX r1 s1 → (∀ (kc ks : Nat) (Q : Int32 → Hp → Prop), ∃ Q' : Int32 → Hp → Prop, (∀ h', Q (bit01 r1) h' → Q' r1 h') ∧ (XX kc ks Q' → delR E (y 0 0) (y 1 k) (y 0 5) h2 kc ks Q)) → JP E A h y n cp (i + 1) (2 * i + 2) (fun kc ks Q => m_X11_deliver E (y 0 0) (nI k) h kc ks Q) (bit01 r1) s1 := by
    intro XX r1 s1 u hu j hX
    obtain ⟨n3, cp3, j1, j2, j3, j4⟩ := j
    rw [eFc] at j2 j4
    rw [eFs] at j3 j4
    refine ⟨n3, cp3, j1.mono (Nat.le_refl _) hu, j2, j3, fun kc ks k1 k2 Q hQ => head kc ks Q (w2 0 0 _ ⟨fun z => absurd z (by decide), fun _ => ?_⟩)⟩
    obtain ⟨Q', hq1, hq2⟩ := hX kc ks Q
    exact hq2 (j4 kc ks k1 k2 _ (fun h' y' R' hy g' => hq1 h' (hQ h' y' R' hy (g1.tr (g2.tr g')))))
  obtain ⟨f02, f12, -⟩ := id X2.1.2.2.1
  have hcK : ∀ {kc ks : Nat} {P : Nat → Nat → Nat → Nat → Prop}, P kc ks (kc - kc) (ks - ks) → cK kc ks P := fun hp => cK_of _ _ (Nat.le_refl _) (Nat.le_refl _) hp
  have bq : ∀ (kc ks : Nat) (Q : Int32 → Hp → Prop) (r1 : Int32) (h' : Hp), Q (bit01 r1) h' → br (r1 = 0) (m_X11_deliver_L158 E 0 h' kc ks Q) (m_X11_deliver_L158 E 1 h' kc ks Q) := by
    intro kc ks Q r1 h' hq
    unfold bit01 at hq
    refine ⟨fun z => ⟨fun _ => ?_, fun w => absurd rfl w⟩, fun z => ⟨fun w => absurd w (by decide), fun _ => ?_⟩⟩
    · rw [if_pos z] at hq; exact hq
    · rw [if_neg z] at hq; exact hq
  rcases ad2 with ⟨t1, c, hc, t2⟩ | ⟨t1, t, ht, t2⟩ | ⟨t1, t2⟩
  · rw [t1, t2]
    refine Mw.y rfl (Mw.b ?_)
    have hc' : c < (va_up n 2 m) 0 := hc
    have J := J_toCard ⟨o1, by omega⟩ X wG hi (by omega) hc' m13 m14 ad1' hFD
    obtain ⟨rr, ss, ej, jj⟩ := J
    refine Mw.e ej (dl01 (fin _ rr ss _ (by omega) jj (fun kc ks Q => ⟨fun x54 h55 => br (x54 = 0) (m_X11_deliver_L158 E 0 h55 (kc - kc) (ks - ks) Q) (m_X11_deliver_L158 E 1 h55 (kc - kc) (ks - ks) Q), bq _ _ Q rr, fun hQ => ?_⟩)))
    rw [t1, t2] at q2
    have l0 := X2.1.2.2.2.1.1
    have cd := X2.card hc'
    refine gI_of q2 rfl ⟨fun z => absurd z (by decide), fun _ => gI_of q2 rfl ⟨fun z => absurd z (by decide), fun _ => ?_⟩⟩
    refine gR_of f02 rfl (gI_of q2 rfl (nN_of (isO_of f12 (s_isCard X2.1 (fun q => ?_) (fun j hj e => ⟨fun z => absurd z (by decide), fun _ => ?_⟩)))))
    · rcases q with q | q
      · exact absurd q (nI_pos (by omega))
      · exact absurd q (nI_ge hc' (by have := X2.1.2.1.1.2; omega))
    exact gR_of f02 rfl (nN_of (gR_of f12 rfl (gI_of q2 rfl (nN_of (l0.isO (s_get l0 (by have := X2.1.2.1.1.2; omega) hc' (nN_of (isO_of cd (isO_of cd (hcK hQ))))))))))
  · rw [t1, t2]
    refine Mw.no (by decide) (Mw.y rfl (Mw.b ?_))
    have ht' : t < (va_up n 2 m) 1 := ht
    have J := J_toTerm ⟨o1, by omega⟩ X wG hi (by omega) ht' hFD
    obtain ⟨rr, ss, ej, jj⟩ := J
    refine Mw.e ej (dl01 (fin _ rr ss _ (by omega) jj (fun kc ks Q => ⟨fun x54 h55 => br (x54 = 0) (m_X11_deliver_L158 E 0 h55 (kc - kc) (ks - ks) Q) (m_X11_deliver_L158 E 1 h55 (kc - kc) (ks - ks) Q), bq _ _ Q rr, fun hQ => ?_⟩)))
    rw [t1, t2] at q2
    have l1 := X2.1.2.2.2.1.2.1
    obtain ⟨wd, td, -⟩ := X2.1.term ht'
    refine gI_of q2 rfl ⟨fun z => absurd z (by decide), fun _ => gI_of q2 rfl ⟨fun _ => ?_, fun z => absurd rfl z⟩⟩
    refine gR_of f02 rfl (gI_of q2 rfl (nN_of (isO_of f12 (s_isTerminal X2.1 (fun q => ?_) (fun j hj e => ⟨fun z => absurd z (by decide), fun _ => ?_⟩)))))
    · rcases q with q | q
      · exact absurd q (nI_pos (by omega))
      · exact absurd q (nI_ge ht' (by have := X2.1.2.1.2.1.2; omega))
    exact gR_of f02 rfl (nN_of (gR_of f12 rfl (gI_of q2 rfl (nN_of (l1.isO (s_get l1 (by have := X2.1.2.1.2.1.2; omega) ht' (nN_of (isO_of td (isO_of td (hcK hQ))))))))))
  · rw [t1, t2]
    refine Mw.no (by decide) (Mw.no (by decide) (Mw.b ?_))
    have J := J_toHost ⟨o1, by omega⟩ X wG hi (by omega) hFD hF1
    obtain ⟨rr, ss, ej, h01, jj⟩ := J
    refine Mw.e ej (dl01 (fin _ rr ss _ (by omega) jj (fun kc ks Q => ⟨fun x94 h95 => m_X11_deliver_L158 E x94 h95 (kc - kc) (ks - ks) Q, fun h' hq => ?_, fun hQ => ?_⟩)))
    · unfold bit01 at hq
      refine ⟨fun z => ?_, fun z => ?_⟩
      · rw [if_pos z] at hq; exact hq
      · rw [if_neg z] at hq; exact hq
    rw [t1, t2] at q2
    refine gI_of q2 rfl ⟨fun _ => gR_of f02 rfl (nN_of (isO_of X2.host (hcK hQ))), fun z => absurd rfl z⟩
theorem SJ_deliver_ok : SJ_deliver RX WF := by
  intro E A h x s i kc ks z hR hW hi
  obtain ⟨y, n, cp, rfl, R, hb⟩ := id hR
  have w := hW.w hi R
  have hn := R.2.1.2.2.1
  obtain ⟨f0, f1, -⟩ := id R.2.2.1
  have wn := w.mono (i' := i + 1) (u' := 2 * i + 2) (by omega) (by omega)
  have no : ∀ (r : Int32) (s' : MS), (z < 0 ∨ (¬ z < 0 ∧ nI (n 2) ≤ z)) → M_deliver s z = some (-1, s) := by
    intro _ _ q
    unfold M_deliver M_isMessage
    generalize mfu = fu
    rcases q with q | ⟨q, q2⟩
    · rw [if_pos q, Option.bind_some, lt1_e, lt1_e, if_pos rfl]
    · rw [if_neg q, hn.1, if_pos q2, Option.bind_some, lt1_e, lt1_e, if_pos rfl]
  by_cases q : z < 0 ∨ (¬ z < 0 ∧ nI (n 2) ≤ z)
  · refine ⟨-1, s, no 0 s q, ?_⟩
    have := JP.same (E := E) (A := A) (h := h) (y := y) (n := n) (cp := cp) (r := (-1 : Int32)) (X := fun kc ks Q => m_X11_deliver E (y 0 0) z h kc ks Q) R wn (fun kc ks Q hQ => gR_of f0 rfl (nN_of (gR_of f1 rfl (nN_of (isO_of R.2.2.1.2.2.2.1 (s_takeOff R w.sz (fun _ => ⟨fun _ => hQ, fun a e => by cases e⟩) (fun k hk e => ?_)))))))
    · exact this.sj hb hi (Nat.le_refl _)
    · rw [e] at q
      rcases q with q | ⟨_, q⟩
      · exact absurd q (nI_pos (by omega))
      · exact absurd q (nI_ge hk (by omega))
  refine ix3 z (n := n 2) (by omega) (fun z => absurd (Or.inl z) q) (fun a b => absurd (Or.inr ⟨a, b⟩) q) (fun k hk e => ?_)
  subst e
  obtain ⟨r, s', e, j⟩ := J_del R w hi hk
  exact ⟨r, s', e, j.sj hb hi (Nat.le_refl _)⟩
end DEL
