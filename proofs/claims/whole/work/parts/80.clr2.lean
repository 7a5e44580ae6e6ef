section CLR2
variable {E : Ev} {A S : Nat → Prop} {h h' : Hp} {y y' : Nat → Nat → Nat} {s s' : MS} {n cp n' cp' : Nat → Nat} {i u k m kc ks t b : Nat} {r : Int32} {f : Nat → Int32}
theorem s_lclear {l d c : Nat} {el el' : Nat → Nat} {Q : Hp → Prop} (a : AL E h l d m c el) (hm : m < 2 ^ 30) (hc : c < 2 ^ 30) (hQ : ∀ h', AL E h' l d 0 c el' → xg (alS l d c) h h' → Q h') : m_Jx4a65c_clear_da8c8 E l h kc ks Q := by
  obtain ⟨md, h1, h2, h3⟩ := a
  refine gI_of h1 rfl (pV_of h1 (by show 0 < 3; decide) (gR_of h1.set rfl (gI_of h1.set rfl (pV_of h1.set (by show 2 < 3; decide) ?_))))
  have x2 := (h1.set (e' := .inr (0, [.int (md + 1), .ref d, .int (nI m)]))).set (e' := .inr (0, [.int (md + 1), .ref d, .int 0]))
  have g2 : xg (alS l d c) h (xh_set (xh_set h l (.inr (0, [.int (md + 1), .ref d, .int (nI m)]))) l (.inr (0, [.int (md + 1), .ref d, .int 0]))) := (xg.set (Or.inl rfl)).tr (xg.set (Or.inl rfl))
  rcases h3 with ⟨c0, ed⟩ | ⟨c10, f, h4, h5, h6⟩
  · have : m = 0 := by omega
    subst this
    refine ⟨1, fun _ => hQ _ ⟨md + 1, ?_, Nat.zero_le _, Or.inl ⟨c0, ed⟩⟩ g2, fun z => absurd (by rw [nI_0]; exact Int32.le_refl _) z⟩
    rw [nI_0]; exact x2
  · have nd : d ≠ l := h4.neq h1 (by intro w; cases w)
    have key : ∀ dd i hh f, m - i = dd → i ≤ m → xh_at hh l (.inr (0, [.int (md + 1), .ref d, .int 0])) → xh_at hh d (.inl (E.1 4, c, .inr (.inr (.inr (.inr f))))) → xg (alS l d c) h hh → m_Jx4a65c_clear_da8c8_L27 (dd + 1) E (some d) (nI m) (nI i) hh kc ks Q := by
      intro dd
      induction dd with
      | zero =>
        intro i hh f hd hi hl hdd g
        have : i = m := by omega
        subst this
        refine ⟨fun _ => hQ hh ⟨md + 1, by rw [nI_0]; exact hl, Nat.zero_le _, Or.inr ⟨c10, f, hdd, fun j hj => absurd hj (Nat.not_lt_zero _), fun j _ hj => absurd hj (Nat.not_lt_zero _)⟩⟩ g, fun z => absurd (Int32.le_refl _) z⟩
      | succ dd ih =>
        intro i hh f hd hi hl hdd g
        refine ⟨fun z => absurd z (nI_ge (by omega) (by omega)), fun _ => nN_of (sR_of hdd (j := i) rfl (by omega) (by omega) ?_)⟩
        rw [nI_1]
        exact ih (i + 1) _ _ (by omega) (by omega) (hl.ne (fun w => nd w.symm)) hdd.set (g.tr (xg.set (Or.inr ⟨rfl, by omega⟩)))
    refine ⟨m + 1, ?_⟩
    have := key m 0 _ f (by omega) (by omega) x2 ((h4.ne nd).ne nd) g2
    rw [nI_0] at this
    exact this
theorem RXo.clr {el : Nat → Nat} (R : RXo E A h y (uA s 55 f) n cp) (ht : t < n 1) (g : xg (alS (y 7 t) (y 8 t) (cp (20 + t))) h h') (al : AL E h' (y 7 t) (y 8 t) 0 (cp (20 + t)) el) (hsub : ∀ j, j < n 7 → s.2.2.1 55 j = 0 → f j = 0) (h0 : bl s (n 7) t = []) (ho : ∀ t', t' < n 1 → t' ≠ t → bl s (n 7) t' = bl (uA s 55 f) (n 7) t') : RXo E A h' y s n cp ∧ xg A h h' := by
  obtain ⟨Ra, Rn, Rf, Rl, Rm, Rc, Rt, Rs, Rp⟩ := id R
  obtain ⟨Pf, Pl, Pb, Pm, Pc, Pt, Ps, Pp, PA, Po⟩ := R.appB ht g
  have e55 : (uA s 55 f).2.2.1 55 = f := by show va_up s.2.2.1 55 f 55 = f; exact va_up_self _ _ _
  refine ⟨⟨Ra.g g, Rn, Pf, ?_, Pm, Pc, Pt, Ps, ?_⟩, PA⟩
  · obtain ⟨l0, l1, l2, l3, l4, l5, l6, l7⟩ := Rl
    refine ⟨Pl 12 _ _ (by omega) (by omega) l0, Pl 13 _ _ (by omega) (by omega) l1, Pl 14 _ _ (by omega) (by omega) l2, Pl 15 _ _ (by omega) (by omega) l3, Pl 16 _ _ (by omega) (by omega) l4, Pl 17 _ _ (by omega) (by omega) l5, Pl 18 _ _ (by omega) (by omega) l6, fun t' ht' => ?_, l7.2⟩
    by_cases z : t' = t
    · subst z
      rw [h0]
      exact al.e (fun j hj => absurd hj (Nat.not_lt_zero _))
    · rw [ho t' ht' z]
      exact Pb t' ht' z _ _ (l7.1 t' ht')
  · obtain ⟨p1, p2, p3, p4, p5⟩ := Pp
    refine ⟨p1, p2, p3, fun j hj hz => p4 j hj (by rw [e55]; exact hsub j hj hz), fun t1 ht1 hw => ?_⟩
    obtain ⟨q1, q2, q3, q4, q5⟩ := p5 t1 ht1 hw
    exact ⟨q1, q2, q3, q4, fun j hj hz => q5 j hj (by rw [e55]; exact hsub j hj hz)⟩
theorem vis_ucl (s : MS) (b : Nat) (v : Int32) (f : Nat → Int32) (l : List Int64) : vis (uA (rowS (clS (mA s 55 b v) b) l) 55 f) = vis (uA s 55 f) := by
  have h1 : ∀ z : MS, vis (uA z 55 f) = vis (uA (unvis (vis z)) 55 f) := fun _ => rfl
  have h2 : ∀ z : MS, vis (uA (mA z 55 b v) 55 f) = vis (uA z 55 f) := fun z => by
    have : uA (mA z 55 b v) 55 f = uA z 55 f := by
      show (z.1, z.2.1, va_up (va_up z.2.2.1 55 _) 55 f, z.2.2.2) = (z.1, z.2.1, va_up z.2.2.1 55 f, z.2.2.2)
      rw [va_up2]
    rw [this]
  rw [h1, vis_row, clS_vis, ← h1, h2]
theorem vis_u18 (s : MS) (j : Nat) (v : Int64) (f : Nat → Int32) : vis (uA (mL s 18 j v) 55 f) = vis (uA s 55 f) := rfl
theorem uA_54 (s : MS) (f : Nat → Int32) : (uA s 55 f).2.2.1 54 = s.2.2.1 54 := by
  show va_up s.2.2.1 55 f 54 = _
  rw [va_up_ne _ _ (by omega)]
theorem uA_55 (s : MS) (f : Nat → Int32) : (uA s 55 f).2.2.1 55 = f := by
  show va_up s.2.2.1 55 f 55 = _
  rw [va_up_self]
theorem SendR.n9 {k1 : Nat} {so nu oso onu : Int32} {g : Nat → Int64} (hS : SendR s k1 so nu oso onu g n r s' n') (hn : n 2 ≤ n 9 ∧ n 9 ≤ 60) : n' 2 ≤ n' 9 ∧ n' 9 ≤ 60 := by
  rcases hS with ⟨_, _, _, rfl⟩ | ⟨h60, _, rfl, _⟩
  · exact hn
  · show n 2 + 1 ≤ (if n 2 < n 9 then n 9 else n 9 + 1) ∧ (if n 2 < n 9 then n 9 else n 9 + 1) ≤ 60
    split <;> omega
theorem SealR.c8 {key : Int32} {rs : Nat} {g : Nat → Int64} (hS : SealR s key rs g n cp r s' n' cp') (hn : n 4 < 2048) (hc : ∀ j, cp j ≤ 8192) : ∀ j, cp' j ≤ 8192 := by
  rcases hS with ⟨_, _, _, _, _, _, _, rfl⟩ | ⟨_, _, _, _, rfl⟩
  · exact hc
  · intro j
    by_cases z : j = 16
    · subst z
      rw [va_up_self]
      have := hc 16
      unfold al_cap
      split
      · split <;> omega
      · omega
    · rw [va_up_ne _ _ z]; exact hc j
theorem W2.rn (w : W2 i u s n) (hi : i ≤ 512) (hu : u ≤ 2048) (h9 : n 2 ≤ n 9 ∧ n 9 ≤ 60) (hc : ∀ j, cp j ≤ 8192) : RXn s n cp := by
  obtain ⟨⟨c0, c1, c2, c3, c4, c5, c6, c7, c8⟩, -⟩ := w
  exact ⟨c0, c1, ⟨c2.1, h9⟩, c3.1, c4.1, c5.1, c6.1, c7.1, c8, ⟨by omega, by omega, by omega, by omega, by omega⟩, hc⟩
/-- where the reference is, in clear of terminal t, at batched payment b -/
def c55 (s0 s : MS) (t b : Nat) : Prop := ∀ a, s.2.2.1 55 a = if a < b ∧ s0.2.2.1 54 a = nI t ∧ s0.2.2.1 55 a = 0 then 1 else s0.2.2.1 55 a
theorem J_clear {s0 : MS} {n7 : Nat} {kd fs fr : Int32} {cf : Nat → Int64} (hi : i ≤ 512) (hu : u < 2000) (ht8 : t < 8) (h7 : n7 ≤ 512) : ∀ d b cnt mm s n cp, n7 - b = d → b ≤ n7 → d < mm → n 7 = n7 → t < n 1 → RXn s n cp → W2 i u s n → c55 s0 s t b → s.2.2.1 54 = s0.2.2.1 54 → (∀ t', n 1 ≤ t' → t' < 8 → bl s0 n7 t' = []) →
    Mw (M_clear_L18 mm s (nI t) (nI cnt) (nI b)) (fun r s' => ∃ n' cp', W2 i u s' n' ∧ Fc n' ≤ Fc n ∧ Fs n' cp' ≤ Fs n cp ∧ ∀ h y gf, CX E A h y (uA s 55 (s0.2.2.1 55)) n cp kd fs fr cf gf → ∀ kc ks, Fc n ≤ kc + Fc n' → Fs n cp ≤ ks + Fs n' cp' → ∀ Q : Int32 → Hp → Prop, (∀ h' y', RXo E A h' y' s' n' cp' → y' 0 0 = y 0 0 → xg A h h' → Q r h') → m_X8_sendBatch_L4 ((bl s0 n7 t).length - (bl s0 b t).length + 1) E (y 5 t) (nI cnt) (nI (bl s0 b t).length) h kc ks Q) := by
  intro d
  induction d with
  | zero =>
    intro b cnt mm s n cp hd hb hm hn7 ht Rn w hc h54 hbl
    obtain ⟨mm, rfl⟩ : ∃ m', mm = m' + 1 := ⟨mm - 1, by omega⟩
    have : b = n7 := by omega
    subst this
    have h53 : s.1 53 = nI b := by rw [← hn7]; exact w.1.2.2.2.2.2.2.2.1.1
    rw [M_clear_L18, if_pos (by rw [h53]; exact Int32.le_refl _)]
    refine Mw.r ⟨n, cp, w, Nat.le_refl _, Nat.le_refl _, fun h y gf X kc ks k1 k2 Q hQ => ?_⟩
    obtain ⟨wd, x, -⟩ := X.1.term ht
    have al := X.1.2.2.2.1.2.2.2.2.2.2.2.1 t ht
    have ebl : bl (uA s 55 (s0.2.2.1 55)) (n 7) t = bl s0 b t := by
      rw [hn7]
      exact bl_c (fun a _ => ⟨by rw [uA_54, h54], by rw [uA_55]⟩)
    rw [ebl] at al
    have hle := bl_le (s := s0) (t := t) (m := b)
    have hcp := Rn.2.2.2.2.2.2.2.2.2.2 (20 + t)
    rw [Nat.sub_self]
    refine gR_of x rfl (nN_of (al.isO (s_size al ⟨fun _ => gR_of x rfl (nN_of (al.isO (s_lclear (el' := fun j => 0) al (by omega) (by omega) (fun h' al' g' => ?_)))), fun z => absurd (Int32.le_refl _) z⟩)))
    have h0 : bl s (n 7) t = [] := by
      rw [hn7]
      have sub : ∀ N, N ≤ b → bl s N t = [] := by
        intro N
        induction N with
        | zero => intro _; rfl
        | succ N ih =>
          intro hN
          rw [bl_s, ih (by omega), List.nil_append, if_neg]
          rintro ⟨z1, z2⟩
          rw [h54] at z1
          rw [hc N] at z2
          by_cases w : s0.2.2.1 55 N = 0
          · rw [if_pos ⟨by omega, z1, w⟩] at z2; exact absurd z2 (by decide)
          · rw [if_neg (fun v => w v.2.2)] at z2; exact w z2
      exact sub b (Nat.le_refl _)
    have hsub : ∀ j, j < n 7 → s.2.2.1 55 j = 0 → s0.2.2.1 55 j = 0 := by
      intro j hj hz
      rw [hc j] at hz
      by_cases w : j < b ∧ s0.2.2.1 54 j = nI t ∧ s0.2.2.1 55 j = 0
      · exact w.2.2
      · rw [if_neg w] at hz; exact hz
    have hoth : ∀ t', t' < n 1 → t' ≠ t → bl s (n 7) t' = bl (uA s 55 (s0.2.2.1 55)) (n 7) t' := by
      intro t' ht' hne
      have hn1 := Rn.2.1.2
      unfold bl
      refine List.filter_congr (fun a _ => ?_)
      rw [uA_54, uA_55, hc a, h54]
      by_cases w : s0.2.2.1 54 a = nI t'
      · rw [if_neg (fun v => hne ((nI_eq (by omega) (by omega)).mp (w.symm.trans v.2.1)))]
      · simp [w]
    obtain ⟨R', gA⟩ := X.1.clr ht g' al' hsub h0 hoth
    exact hQ h' y R' rfl gA
  | succ d ih =>
    intro b cnt mm s n cp hd hb hm hn7 ht Rn w hc h54 hbl
    obtain ⟨mm, rfl⟩ : ∃ m', mm = m' + 1 := ⟨mm - 1, by omega⟩
    have h53 : s.1 53 = nI n7 := by rw [← hn7]; exact w.1.2.2.2.2.2.2.2.1.1
    have cc : (nI b).toNatClampNeg = b := nI_clamp (by omega)
    have nb : ¬ (nI b < 0 ∨ 600 ≤ (nI b).toNatClampNeg) := nI_in (by omega) (by omega)
    have hn1 := Rn.2.1.2
    have hn2 := Rn.2.2.1
    rw [M_clear_L18, if_neg (by rw [h53]; exact nI_ge (by omega) (by omega)), if_neg nb, if_neg nb, if_neg nb, cc, h54]
    have e55 : s.2.2.1 55 b = s0.2.2.1 55 b := by rw [hc b, if_neg (by omega)]
    unfold M_clear_L129
    rw [nI_1]
    by_cases hit : s0.2.2.1 54 b = nI t ∧ s0.2.2.1 55 b = 0
    rotate_left
    · have ebl : bl s0 (b + 1) t = bl s0 b t := by rw [bl_s, if_neg hit, List.append_nil]
      have hc' : c55 s0 s t (b + 1) := by
        intro a
        rw [hc a]
        by_cases za : a = b
        · subst za; rw [if_neg (by omega), if_neg (fun v => hit v.2)]
        · by_cases zz : a < b ∧ s0.2.2.1 54 a = nI t ∧ s0.2.2.1 55 a = 0
          · rw [if_pos zz, if_pos ⟨by omega, zz.2⟩]
          · rw [if_neg zz, if_neg (fun v => zz ⟨by omega, v.2⟩)]
      have I := ih (b + 1) cnt mm s n cp (by omega) (by omega) (by omega) hn7 ht Rn w hc' h54 hbl
      rw [ebl] at I
      by_cases z1 : s0.2.2.1 54 b = nI t
      · rw [if_pos z1, e55, if_neg (fun v => hit ⟨z1, v⟩)]; exact I
      · rw [if_neg z1]; exact I
    obtain ⟨hit1, hit2⟩ := hit
    rw [if_pos hit1, e55, if_pos hit2, lt1_e]
    have enar : mA s 55 b (vp_nar .boolean 1) = mA s 55 b 1 := rfl
    rw [enar, clr_eq _ t cnt b (by omega)]
    obtain ⟨v, hv, wM⟩ := w.mark (by omega) (e55.trans hit2)
    have hn4 : n 4 ≤ v := by have := wM.1.2.2.2.2.1.2; omega
    rw [M_sign_eq, Option.bind_assoc]
    obtain ⟨o1, o2, o3, o4, o5, o6, o7⟩ := clS_v (mA s 55 b 1) b
    have o56 : (mA s 55 b 1).2.2.2 56 = s.2.2.2 56 := rfl
    rw [o56] at o1 o2 o3 o4 o5 o6 o7
    have hlE : sgL 11 ((clS (mA s 55 b 1) b).2.2.2 18) = [(nI 11).toInt64, s.2.2.2 56 (7 * b), s.2.2.2 56 (7 * b + 1), s.2.2.2 56 (7 * b + 2), s.2.2.2 56 (7 * b + 3), s.2.2.2 56 (7 * b + 4), s.2.2.2 56 (7 * b + 5), s.2.2.2 56 (7 * b + 6)] := by
      unfold sgL
      rw [o1, o2, o3, o4, o5, o6, o7]
    generalize hl : sgL 11 ((clS (mA s 55 b 1) b).2.2.2 18) = l at hlE
    have hll : l.length = 8 := by rw [hlE]; rfl
    have wR : W2 i v (rowS (clS (mA s 55 b 1) b) l) n := wM.eqv ((vis_row _ _).trans (clS_vis _ _))
    refine Mw.b ?_
    obtain ⟨r3, s3, n3, cp3, e3, hS3⟩ := M_seal_row (n := n) (cp := cp) (rowS_l (clS (mA s 55 b 1) b) l) (by omega) wR.1.2.2.2.2.1.1 (by omega) 1 (nI t).toInt64
    refine Mw.e e3 ?_
    dsimp only [Option.bind_some]
    rw [show (256 : Int32) * 1 + (nI t).toInt64.toInt32 = nI (256 * 1 + t) from keyc 1 t] at hS3
    obtain ⟨F1, F2, F3, F4⟩ := hS3.F (by omega) Rn.2.2.2.2.2.2.2.2.2.2
    obtain ⟨S1, S2, S3, S4⟩ := hS3.sc
    have hn32 : n3 2 = n 2 := F4 2 (by omega)
    have hn39 : n3 9 = n 9 := F4 9 (by omega)
    have hn31 : n3 1 = n 1 := F4 1 (by omega)
    have hn37 : n3 7 = n 7 := F4 7 (by omega)
    have w3 : W2 i u (mL s3 18 11 r3.toInt64) n3 := by
      rw [hv]
      exact (hS3.w (by omega) (by omega) wR).eqv (vis_18 _ _ _)
    obtain ⟨r4, s4, n4, e4, hS4⟩ := M_send_spec (s := mL s3 18 11 r3.toInt64) (n := n3) (k := 11) (so := 1) (nu := nI t) (oso := 2) (onu := 0) (by omega) w3.1.2.2.1.1 (by omega)
    refine Mw.b (Mw.e e4 ?_)
    dsimp only
    obtain ⟨G1, G2, G3, G4⟩ := hS4.F (cp := cp3) (by omega)
    obtain ⟨T1, T2, T3, T4, T5⟩ := hS4.sc
    have w4 := hS4.w (by omega) w3 (Or.inr (Or.inl ⟨rfl, t, by omega, rfl⟩)) (Or.inr (Or.inr ⟨rfl, rfl⟩))
    have hn41 : n4 1 = n 1 := (G4 1 (by omega) (by omega)).trans hn31
    have hn47 : n4 7 = n7 := ((G4 7 (by omega) (by omega)).trans hn37).trans hn7
    have A4 : ∀ q, 12 < q → s4.2.2.1 q = (mA s 55 b 1).2.2.1 q := fun q hq => by rw [T3 q (by omega), mL_A, S3 q (by omega) (by omega), rowS_A, clS_A]
    have h54' : s4.2.2.1 54 = s0.2.2.1 54 := by
      rw [A4 54 (by omega), ← h54]
      show va_up s.2.2.1 55 (upd (s.2.2.1 55) b 1) 54 = _
      rw [va_up_ne _ _ (by omega)]
    have e55' : s4.2.2.1 55 = upd (s.2.2.1 55) b 1 := by
      rw [A4 55 (by omega)]
      show va_up s.2.2.1 55 (upd (s.2.2.1 55) b 1) 55 = _
      rw [va_up_self]
    have hc' : c55 s0 s4 t (b + 1) := by
      intro a
      rw [e55']
      by_cases za : a = b
      · subst za; rw [pk_us, if_pos ⟨by omega, hit1, hit2⟩]
      · rw [pk_un za, hc a]
        by_cases zz : a < b ∧ s0.2.2.1 54 a = nI t ∧ s0.2.2.1 55 a = 0
        · rw [if_pos zz, if_pos ⟨by omega, zz.2⟩]
        · rw [if_neg zz, if_neg (fun v => zz ⟨by omega, v.2⟩)]
    have Rn4 : RXn s4 n4 cp3 := w4.rn hi (by omega) (hS4.n9 (by omega)) (hS3.c8 (by omega) Rn.2.2.2.2.2.2.2.2.2.2)
    have hbl4 : ∀ t', n4 1 ≤ t' → t' < 8 → bl s0 n7 t' = [] := fun t' h1 h2 => hbl t' (by omega) h2
    have eb1 : bl s0 (b + 1) t = bl s0 b t ++ [b] := by rw [bl_s, if_pos ⟨hit1, hit2⟩]
    have elen : (bl s0 (b + 1) t).length = (bl s0 b t).length + 1 := by rw [eb1, List.length_append, List.length_singleton]
    obtain ⟨lt1', gd⟩ := bl_at (s := s0) (t := t) (b := b) (N := n7) (by omega) hit1 hit2
    have fin : ∀ cnt', (r4 = 0 → cnt' = cnt) → (¬ r4 = 0 → cnt' = cnt + 1) → Mw (M_clear_L18 mm s4 (nI t) (nI cnt') (nI (b + 1))) (fun r s' => ∃ n' cp', W2 i u s' n' ∧ Fc n' ≤ Fc n ∧ Fs n' cp' ≤ Fs n cp ∧ ∀ h y gf, CX E A h y (uA s 55 (s0.2.2.1 55)) n cp kd fs fr cf gf → ∀ kc ks, Fc n ≤ kc + Fc n' → Fs n cp ≤ ks + Fs n' cp' → ∀ Q : Int32 → Hp → Prop, (∀ h' y', RXo E A h' y' s' n' cp' → y' 0 0 = y 0 0 → xg A h h' → Q r h') → m_X8_sendBatch_L4 ((bl s0 n7 t).length - (bl s0 b t).length + 1) E (y 5 t) (nI cnt) (nI (bl s0 b t).length) h kc ks Q) := by
      intro cnt' hr0 hr1
      refine (ih (b + 1) cnt' mm s4 n4 cp3 (by omega) (by omega) (by omega) hn47 (by omega) Rn4 w4 hc' h54' hbl4).m (fun r s' hq => ?_)
      obtain ⟨n', cp', j1, j2, j3, j4⟩ := hq
      refine ⟨n', cp', j1, by omega, by omega, fun h y gf X kc ks k1 k2 Q hQ => ?_⟩
      obtain ⟨wd, x, -⟩ := X.1.term ht
      have al := X.1.2.2.2.1.2.2.2.2.2.2.2.1 t ht
      have ebl : bl (uA s 55 (s0.2.2.1 55)) (n 7) t = bl s0 n7 t := by
        rw [hn7]
        exact bl_c (fun a _ => ⟨by rw [uA_54, h54], by rw [uA_55]⟩)
      rw [ebl] at al
      have hle := bl_le (s := s0) (t := t) (m := n7)
      obtain ⟨c, kk, am, un, tt, w0, a0, sl, ap, p0, p1, p2, p3, p4, p5, p6, p7⟩ := X.1.2.2.2.2.2.2.2.2.2.2.2.1 b (by omega) (by rw [uA_55]; exact hit2)
      rw [uA_54, h54, hit1] at p7
      subst p7
      have q56 : (uA s 55 (s0.2.2.1 55)).2.2.2 56 = s.2.2.2 56 := rfl
      rw [q56] at p0 p1 p2 p3 p4 p5 p6
      have hfu : (bl s0 n7 t).length - (bl s0 b t).length + 1 = ((bl s0 n7 t).length - (bl s0 (b + 1) t).length + 1) + 1 := by omega
      rw [hfu]
      have eg : (fun j => y 16 ((bl s0 n7 t).getD j 0)) (bl s0 b t).length = y 16 b := by
        show y 16 ((bl s0 n7 t).getD (bl s0 b t).length 0) = _
        rw [gd]
      have al' := al.e (el' := fun j => y 16 ((bl s0 n7 t).getD j 0)) (fun _ _ => rfl)
      refine gR_of x rfl (nN_of (al.isO (s_size al ⟨fun z => absurd z (nI_ge lt1' (by omega)), fun _ => gR_of x rfl (nN_of (al.isO (s_get al' (by omega) lt1' ?_)))⟩)))
      rw [gd]
      refine nN_of (isO_of ap (isO_of x (cK_of (Fc n - Fc n4) (Fs n cp - Fs n4 cp3) (by omega) (by omega) ?_)))
      have e18 : ∀ j, j ≠ 11 → (mL s3 18 11 r3.toInt64).2.2.2 18 j = (clS (mA s 55 b 1) b).2.2.2 18 j := by
        intro j hj
        rw [mL_18, pk_uLn hj, S1 18 (by omega), rowS_18]
      have h3bl : ∀ t', n3 1 ≤ t' → t' < 8 → bl (uA (mL s3 18 11 r3.toInt64) 55 (s0.2.2.1 55)) (n3 7) t' = [] := by
        intro t' h1 h2
        rw [hn37, hn7, ← hbl t' (by omega) h2]
        refine bl_c (fun a _ => ⟨?_, by rw [uA_55]⟩)
        rw [uA_54, mL_A, S3 54 (by omega) (by omega), rowS_A, clS_A, ← h54]
        show va_up s.2.2.1 55 (upd (s.2.2.1 55) b 1) 54 a = _
        rw [va_up_ne _ _ (by omega)]
      refine s_toHost (k := 11) (l := l) (sC := uA (rowS (clS (mA s 55 b 1) b) l) 55 (s0.2.2.1 55)) (sM := uA (mL s3 18 11 r3.toInt64) 55 (s0.2.2.1 55)) X ht (Or.inr rfl) ap (by omega) (by rw [hlE, p0, p1, p2, p3, p4, p5, p6]) (vis_ucl s b 1 _ l) (hS3.uA (by omega) (by omega)) (vis_u18 _ _ _ _) (w3.uA h3bl) (hS4.uA (by omega)) (by rw [e18 1 (by omega), o1, p0]) (by rw [e18 2 (by omega), o2, p1]) (by rw [e18 3 (by omega), o3, p2]) (by rw [e18 4 (by omega), o4, p3]) (by rw [e18 5 (by omega), o5, p4]) (by rw [e18 6 (by omega), o6, p5]) (by rw [e18 8 (by omega), o7, p6]) (by rw [mL_18, pk_uLs]) (by omega) (by omega) (fun h5 y5 R5 hy5 pk5 k5 k7 ⟨g8, k8⟩ g5 => ?_)
      have yy : ∀ j, y5 0 j = y 0 j := fun j => hy5 0 j (by omega) (by omega) (by omega) (by omega) (by omega)
      have y55 : y5 5 t = y 5 t := hy5 5 t (by omega) (by omega) (by omega) (by omega) (by omega)
      have X5 : CX E A h5 y5 (uA s4 55 (s0.2.2.1 55)) n4 cp3 kd fs fr cf g8 := ⟨R5, by rw [yy 5, yy 7]; exact k5 _ X.2.1, by rw [yy 7]; exact k7 _ X.2.2.1, by rw [yy 8]; exact k8⟩
      have nxt := j4 h5 y5 g8 X5 (kc - (Fc n - Fc n4)) (ks - (Fs n cp - Fs n4 cp3)) (by omega) (by omega) Q (fun h' y' R' hy g' => hQ h' y' R' (hy.trans (yy 0)) (g5.tr g'))
      rw [y55, elen, ← nI_1] at nxt
      rw [elen]
      refine ⟨fun z => ?_, fun z => ?_⟩
      · rw [hr0 z] at nxt; exact nxt
      · rw [hr1 z, ← nI_1] at nxt; exact nxt
    by_cases z : r4 = 0
    · rw [if_pos z]; exact fin cnt (fun _ => rfl) (fun w => absurd z w)
    · rw [if_neg z]; exact fin (cnt + 1) (fun w => absurd w z) (fun _ => rfl)
theorem SJ_clear_ok : SJ_clear RX WF := by
  intro E A h x s i kc ks z hR hW hi
  obtain ⟨y, n, cp, rfl, R, hb⟩ := id hR
  have w := hW.w hi R
  have wn := w.mono (i' := i + 1) (u' := 2 * i + 2) (by omega) (by omega)
  have hn1 := R.2.1.2.1
  obtain ⟨f0, f1, -⟩ := id R.2.2.1
  have l1 := R.2.2.2.1.2.1
  rcases ixD z (N := n 1) (by omega) with q0 | ⟨t, ht, e0⟩
  · refine ⟨-1, s, ?_, ?_⟩
    · unfold M_clear
      generalize mfu = fu
      by_cases a : z < 0
      · rw [if_pos a]
      · rw [if_neg a, hn1.1, if_neg (Int32.not_lt.mpr (q0.resolve_left a))]
    · have := JP.same (E := E) (A := A) (h := h) (y := y) (n := n) (cp := cp) (r := (-1 : Int32)) (X := fun kc ks Q => m_X11_clear E (y 0 0) z h kc ks Q) R wn (fun kc ks Q hQ => gR_of f0 rfl (nN_of (isO_of f1 (s_isTerminal R (fun _ => ⟨fun _ => hQ, fun z => absurd rfl z⟩) (fun j hj e => absurd q0 (ixN (by omega) hj e))))))
      exact this.sj hb hi (Nat.le_refl _)
  subst e0
  obtain ⟨kd, fs, fr, cf, gf, X⟩ := CX.of R
  have hid : uA s 55 (s.2.2.1 55) = s := by
    have : va_up s.2.2.1 55 (s.2.2.1 55) = s.2.2.1 := by
      funext a
      by_cases w : a = 55
      · subst w; exact va_up_self _ _ _
      · exact va_up_ne _ _ w
    show (s.1, s.2.1, va_up s.2.2.1 55 (s.2.2.1 55), s.2.2.2) = s
    rw [this]
  have hn7 : n 7 ≤ i := w.1.2.2.2.2.2.2.2.1.2
  have J := J_clear (E := E) (A := A) (i := i + 1) (u := 2 * i + 2) (t := t) (s0 := s) (n7 := n 7) (kd := kd) (fs := fs) (fr := fr) (cf := cf) (by omega) (by omega) (by omega) (by omega) (n 7) 0 0 mfu s n cp (by omega) (by omega) (by unfold mfu; omega) rfl ht R.2.1 wn (fun a => by rw [if_neg (by omega)]) rfl (fun t' h1 h2 => (wn.2.2.2.2.2.2.2.2.2 t' h1 h2).2.2.2.2.2.2)
  obtain ⟨r, s', e, n', cp', j1, j2, j3, j4⟩ := J
  obtain ⟨wd, xt, -⟩ := R.term ht
  refine ⟨r, s', ?_, ?_⟩
  · rw [← e]
    unfold M_clear
    rw [if_neg (nI_pos (by omega)), hn1.1, if_pos ((nI_ltI (by omega) (by omega)).mpr ht), nI_0]
  · refine JP.sj (y := y) (X := fun kc ks Q => m_X11_clear E (y 0 0) (nI t) h kc ks Q) hb hi ⟨n', cp', j1, j2, j3, fun kc ks k1 k2 Q hQ => gR_of f0 rfl (nN_of (isO_of f1 (s_isTerminal R (fun q => absurd q (ixN (by omega) ht rfl)) (fun j hj e => ⟨fun z => absurd z (by decide), fun _ => ?_⟩))))⟩ (Nat.le_refl _)
    have := j4 h y gf (by rw [hid]; exact X) kc ks (by omega) (by omega) Q hQ
    exact gR_of f0 rfl (nN_of (gR_of f1 rfl (nN_of (l1.isO (s_get l1 (by omega) ht (nN_of (isO_of xt (isO_of xt (cK_of kc ks (Nat.le_refl _) (Nat.le_refl _) ⟨_, this⟩)))))))))
end CLR2
