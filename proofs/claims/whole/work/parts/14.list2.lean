/-- behind the write of an element: the size -/
theorem s_addL11 {E : Ev} {h : Hp} {l d n c v : Nat} {f : Nat → Option Nat} {md : Int32} {kc ks : Nat} {Q : Hp → Prop} (h1 : xh_at h l (.inr (0, [.int md, .ref d, .int (nI n)]))) (h4 : xh_at h d (.inl (E.1 4, c, .inr (.inr (.inr (.inr f)))))) (ho : xo_at h v) (hn : n < c) (hc : c < 2 ^ 30)
    (hQ : ∀ h', xh_at h' l (.inr (0, [.int md, .ref d, .int (nI (n + 1))])) → xh_at h' d (.inl (E.1 4, c, .inr (.inr (.inr (.inr (va_up f n (some v))))))) → xg (fun a => a = l ∨ a = d) h h' → Q h') : m_Jx4a65c_add_72be8_L11 E l (some v) (some d) (nI n) h kc ks Q := by
  have hld : l ≠ d := h1.neq h4 (by intro q; cases q)
  refine ⟨v, rfl, d, rfl, ho, c, f, h4, ?_, _, rfl, ?_⟩
  · intro q
    rcases q with q | q
    · exact nI_pos (by omega) q
    · rw [nI_clamp (by omega)] at q; omega
  · rw [nI_clamp (by omega)]
    have h1' := h1.ne (e' := .inl (E.1 4, c, .inr (.inr (.inr (.inr (va_up f n (some v))))))) hld
    refine ⟨_, h1', by show 2 < 3; decide, _, rfl, ?_⟩
    rw [nI_1]
    exact hQ _ h1'.set (h4.set.ne (fun q => hld q.symm)) ((xg.set (Or.inr rfl)).tr (xg.set (Or.inl rfl)))
theorem s_newLen {E : Ev} {h : Hp} {c : Nat} {kc ks : Nat} {Q : Int32 → Hp → Prop} (h10 : 10 ≤ c) (hc : c < 2 ^ 29) (hQ : Q (nI (c + c / 2)) h) : m_J8_newLength_cabcc E (nI c) (nI (c + 1) - nI c) (nI c >>> ((1 : Int32) &&& 31)) h kc ks Q := by
  intro x2 e2
  have hs : nI c >>> ((1 : Int32) &&& 31) = nI (c / 2) := by
    rw [pk_shrN (by omega) _ 1 (by decide)]
  have hm : nI (c + 1) - nI c = nI 1 := by rw [pk_sub (by omega)]; congr 1; omega
  rw [hs, hm, if_pos (nI_lt (by omega) (by omega))] at e2
  subst e2
  rw [nI_add]
  refine ⟨fun q => absurd q (nI_nle (by omega) (by omega)), fun _ => ⟨fun q => ?_, fun _ => hQ⟩⟩
  exfalso
  have : nI (c + c / 2) ≤ nI 2147483639 := nI_le (by omega) (by omega)
  exact absurd q (Int32.not_lt.mpr this)
theorem s_copyOf {E : Ev} {h : Hp} {d c N : Nat} {f : Nat → Option Nat} {kc ks : Nat} {Q : Option Nat → Hp → Prop} (h4 : xh_at h d (.inl (E.1 4, c, .inr (.inr (.inr (.inr f)))))) (hcN : c ≤ N) (hN : N < 2 ^ 27) (hk : 1 ≤ kc ∧ N ≤ ks) (he : ∀ i y, i < c → f i = some y → xo_at h y)
    (hQ : ∀ h' q f', q ∉ h.1 → xh_at h' q (.inl (E.1 4, N, .inr (.inr (.inr (.inr f'))))) → (∀ i, i < c → f' i = f i) → xg (fun _ => False) h h' → Q (some q) h') : m_J7_copyOf_1904c E (some d) (nI N) h kc ks Q := by
  refine ⟨d, rfl, ⟨_, h4⟩, kc, ks, 0, 0, rfl, rfl, ?_⟩
  refine ⟨fun _ => ?_, fun q => absurd rfl q⟩
  refine ⟨N, kc - 1, ks - N, nI_pos (by omega), nI_clamp (by omega), by omega, by omega, by omega, fun q h1 hq e1 => ?_⟩
  have h4' : xh_at h1 d (.inl (E.1 4, c, .inr (.inr (.inr (.inr f))))) := by rw [e1]; exact h4.new hq
  have h5 : xh_at h1 q (.inl (E.1 4, N, .inr (.inr (.inr (.inr (fun _ => none)))))) := by rw [e1]; exact xh_at.newq
  have g1 : xg (fun _ => False) h h1 := by rw [e1]; exact xg.new hq
  refine ⟨d, rfl, nI c, Or.inl ⟨4, _, _, rfl, h4', rfl⟩, fun x12 e12 => ?_⟩
  have e12' : x12 = nI c := by
    rw [e12]
    by_cases z : N < c
    · omega
    · rw [if_neg (nI_nlt (by omega) (by omega))]
  subst e12'
  refine ⟨q, rfl, c, N, f, fun _ => none, h4', h5, by decide, by decide, nI_pos (by omega), ?_, ?_, ?_, fun h2 e2 => ?_⟩
  · rw [nI_clamp (by omega)]; show 0 + c ≤ c; omega
  · rw [nI_clamp (by omega)]; show 0 + c ≤ N; omega
  · intro i hi y hy
    rw [nI_clamp (by omega)] at hi
    have hy' : f i = some y := by
      have : (0 : Int32).toNatClampNeg + i = i := by show 0 + i = i; omega
      rw [this] at hy; exact hy
    exact (he i y hi hy').g g1 (fun z => z)
  · refine hQ h2 q _ hq (by rw [e2]; exact h5.set) (fun i hi => ?_) (by rw [e2]; exact g1.setn hq)
    rw [nI_clamp (by omega)]
    show va_cpy f (fun _ => none) 0 0 c i = f i
    rw [pk_cpy_in (by omega) (by omega)]
    congr 1; omega
theorem s_grow {E : Ev} {h : Hp} {l d n c : Nat} {el : Nat → Nat} {kc ks : Nat} {Q : Option Nat → Hp → Prop} (a : AL E h l d n c el) (hn : n = c) (hc : c < 2 ^ 25) (hk : 1 ≤ kc ∧ al_cap c ≤ ks)
    (hQ : ∀ h' q f' md, q ∉ h.1 → xh_at h' l (.inr (0, [.int md, .ref q, .int (nI n)])) → xh_at h' q (.inl (E.1 4, al_cap c, .inr (.inr (.inr (.inr f'))))) → (∀ i, i < n → f' i = some (el i)) → xg (fun a => a = l) h h' → Q (some q) h') : m_Jx4a65c_grow_d5877 E l h kc ks Q := by
  obtain ⟨md, h1, h2, h3⟩ := a
  subst hn
  refine ⟨_, _, h1, rfl, ⟨_, h1⟩, kc, ks, 0, 0, rfl, rfl, ?_⟩
  rw [nI_1]
  refine ⟨_, some d, h1, rfl, d, rfl, ?_⟩
  rcases h3 with ⟨h3, hd⟩ | ⟨h3, f, h4, h5, h6⟩
  · subst h3; subst hd
    refine ⟨0, Or.inr ⟨2, _, 0, _, rfl, rfl, rfl⟩, fun q => absurd q (by decide), fun _ => ?_⟩
    refine ⟨_, some (E.2.1 2), h1, rfl, fun _ => ?_, fun q => absurd rfl q⟩
    intro x12 e12
    have e12' : x12 = nI 10 := by rw [e12]; decide
    subst e12'
    have hcap : al_cap 0 = 10 := rfl
    refine ⟨10, kc - 1, ks - 10, nI_pos (by omega), nI_clamp (by omega), by omega, by omega, by rw [hcap] at hk; omega, fun q h5 hq e5 => ?_⟩
    have g1 : xg (fun a => a = l) h h5 := by rw [e5]; exact xg.new hq
    have h1' := g1.1
    have hl5 : xh_at h5 l (.inr (0, [.int md, .ref (E.2.1 2), .int (nI 0)])) := by rw [e5]; exact h1.new hq
    have hq5 : xh_at h5 q (.inl (E.1 4, 10, .inr (.inr (.inr (.inr (fun _ => none)))))) := by rw [e5]; exact xh_at.newq
    refine ⟨_, hl5, by show 1 < 3; decide, _, rfl, ?_⟩
    exact hQ _ q _ md hq hl5.set (hq5.ne (hq5.neq hl5 (by intro z; cases z))) (fun i hi => by omega) (g1.tr (xg.set rfl))
  · refine ⟨nI n, Or.inl ⟨4, _, _, rfl, h4, rfl⟩, fun _ => ?_, fun q => absurd (show (0 : Int32) < nI n from nI_lt (a := 0) (by omega) (by omega)) q⟩
    have hcap : al_cap n = n + n / 2 := by unfold al_cap; rw [if_neg (by omega)]
    refine s_newLen h3 (by omega) ?_
    refine ⟨_, some d, h1, rfl, kc, ks, 0, 0, rfl, rfl, ?_⟩
    refine s_copyOf h4 (by omega) (by omega) (by rw [hcap] at hk; exact hk) h6 (fun h7 q f' hq hq7 hf7 g7 => ?_)
    have hl7 := g7.at h1 (fun z => z)
    refine ⟨_, hl7, by show 1 < 3; decide, _, rfl, ?_⟩
    rw [← hcap] at hq7
    exact hQ _ q f' md hq hl7.set (hq7.ne (hq7.neq hl7 (by intro z; cases z))) (fun i hi => (hf7 i hi).trans (h5 i hi)) ((g7.mono (fun _ _ z => z.elim)).tr (xg.set rfl))
/-- what a list's add may write: the list, and its row if it has one of its own -/
def alS (l d c : Nat) : Nat → Prop := fun a => a = l ∨ (a = d ∧ c ≠ 0)
theorem s_add {E : Ev} {h : Hp} {l d n c v : Nat} {el : Nat → Nat} {kc ks : Nat} {Q : Int32 → Hp → Prop} (a : AL E h l d n c el) (ho : xo_at h v) (hc : c < 2 ^ 25) (hk : n = c → 1 ≤ kc ∧ al_cap c ≤ ks)
    (hQ : ∀ h' d' c', AL E h' l d' (n + 1) c' (va_up el n v) → xg (alS l d c) h h' → ((n < c ∧ d' = d ∧ c' = c) ∨ (n = c ∧ d' ∉ h.1 ∧ c' = al_cap c)) → Q 1 h') : m_Jx4a65c_add_9ea2d E l (some v) h kc ks Q := by
  have a0 := a
  obtain ⟨md, h1, h2, h3⟩ := a
  obtain ⟨civ, fv, hci, hov⟩ := id ho
  have hvl : v ≠ l := hov.neq h1 (by intro q; injection q with q; injection q with q; omega)
  refine ⟨_, _, h1, rfl, _, h1, by show 0 < 3; decide, _, rfl, ?_⟩
  have h1' := h1.set (e' := .inr (0, [.int (md + 1), .ref d, .int (nI n)]))
  have gA : xg (alS l d c) h (xh_set h l (.inr (0, [.int (md + 1), .ref d, .int (nI n)]))) := xg.set (Or.inl rfl)
  have hov' := hov.ne (a := l) (e' := .inr (0, [.int (md + 1), .ref d, .int (nI n)])) hvl
  refine ⟨_, some d, h1', rfl, _, _, h1', rfl, ⟨_, h1'⟩, kc, ks, 0, 0, rfl, rfl, ?_⟩
  have fin : ∀ (h0 hh : Hp) (dd cc : Nat) (f : Nat → Option Nat) (m2 : Int32), xg (alS l d c) h hh → xh_at hh l (.inr (0, [.int m2, .ref dd, .int (nI (n + 1))])) → xh_at hh dd (.inl (E.1 4, cc, .inr (.inr (.inr (.inr f))))) → (∀ i, i < n → f i = some (el i)) → f n = some v → n + 1 ≤ cc → 10 ≤ cc → (∀ i, i < n → xo_at hh (el i)) → xo_at hh v → AL E hh l dd (n + 1) cc (va_up el n v) := by
    intro h0 hh dd cc f m2 _ p1 p2 p3 p4 p5 p6 p7 p8
    refine ⟨m2, p1, p5, Or.inr ⟨p6, f, p2, fun i hi => ?_, fun i y hi hy => ?_⟩⟩
    · by_cases z : i = n
      · subst z; rw [va_up_self]; exact p4
      · rw [va_up_ne _ _ z]; exact p3 i (by omega)
    · by_cases z : i = n
      · subst z; rw [p4] at hy; cases hy; exact p8
      · have := p3 i (by omega); rw [hy] at this; cases this; exact p7 i (by omega)
  have nob : ∀ {hh : Hp} {y : Nat}, xo_at h y → xg (alS l d c) h hh → xo_at hh y := by
    intro hh y hy g
    obtain ⟨cy, fy, hcy, hy'⟩ := hy
    refine ⟨cy, fy, hcy, g.at hy' (fun z => ?_)⟩
    rcases z with z | z
    · subst z
      have := hy'.2.symm.trans h1.2
      injection this with q; injection q with q; omega
    · obtain ⟨z, zc⟩ := z
      subst z
      rcases h3 with ⟨h3, hd⟩ | ⟨h3, f, h4, h5, h6⟩
      · exact absurd h3 zc
      · have := hy'.2.symm.trans h4.2; cases this
  by_cases hc1 : n < c
  · rcases h3 with ⟨h3, -⟩ | ⟨h3, f, h4, h5, h6⟩
    · omega
    have h4' := h4.ne (a := l) (e' := .inr (0, [.int (md + 1), .ref d, .int (nI n)])) (h4.neq h1 (by intro z; cases z))
    refine ⟨d, rfl, nI c, Or.inl ⟨4, _, _, rfl, h4', rfl⟩, fun q => ?_, fun _ => ?_⟩
    · have := (nI_eq (by omega) (by omega)).mp q; omega
    refine s_addL11 h1' h4' ⟨civ, fv, hci, hov'⟩ hc1 (by omega) (fun h' p1 p2 g => ?_)
    have g2 : xg (alS l d c) h h' := gA.tr (g.mono (fun x _ z => z.elim Or.inl (fun z => Or.inr ⟨z, by omega⟩)))
    exact hQ h' d c (fin h h' d c _ _ g2 p1 p2 (fun i hi => by rw [va_up_ne _ _ (by omega)]; exact h5 i hi) (va_up_self _ _ _) (by omega) h3 (fun i hi => nob (a0.obj hi) g2) (nob ho g2)) g2 (Or.inl ⟨hc1, rfl, rfl⟩)
  · have hnc : n = c := by omega
    have aA : AL E (xh_set h l (.inr (0, [.int (md + 1), .ref d, .int (nI n)]))) l d n c el := by
      refine ⟨_, h1', h2, ?_⟩
      rcases h3 with h3 | ⟨h3, f, h4, h5, h6⟩
      · exact Or.inl h3
      · exact Or.inr ⟨h3, f, h4.ne (h4.neq h1 (by intro z; cases z)), h5, fun i y hi hy => nob (h6 i y hi hy) gA⟩
    have hlen : xa_len E (xh_set h l (.inr (0, [.int (md + 1), .ref d, .int (nI n)]))) d (nI c) := by
      rcases h3 with ⟨h3, hd⟩ | ⟨h3, f, h4, h5, h6⟩
      · exact Or.inr ⟨2, _, 0, _, rfl, hd, by rw [h3]; rfl⟩
      · exact Or.inl ⟨4, _, _, rfl, h4.ne (h4.neq h1 (by intro z; cases z)), rfl⟩
    refine ⟨d, rfl, nI c, hlen, fun _ => ?_, fun q => absurd (by rw [hnc]) q⟩
    refine ⟨⟨_, h1'⟩, kc, ks, 0, 0, rfl, rfl, ?_⟩
    refine s_grow aA hnc hc (hk hnc) (fun h7 q f' m7 hq hl7 hq7 hf7 g7 => ?_)
    have g7' : xg (alS l d c) h h7 := gA.tr (g7.mono (fun x _ z => Or.inl z))
    have hcap : n < al_cap c := by unfold al_cap; split <;> omega
    have hcap2 : 10 ≤ al_cap c := by
      unfold al_cap
      split
      · omega
      · rcases h3 with ⟨h3, -⟩ | ⟨h3, -⟩
        · omega
        · omega
    have hcap3 : al_cap c < 2 ^ 30 := by unfold al_cap; split <;> omega
    refine s_addL11 hl7 hq7 (nob ho g7') hcap hcap3 (fun h' p1 p2 g => ?_)
    have hqh : q ∉ h.1 := hq
    have g2 : xg (alS l d c) h h' := by
      refine ⟨fun x hx => g.1 x (g7'.1 x hx), fun x hx hs => (g.2 x (g7'.1 x hx) (fun z => ?_)).trans (g7'.2 x hx hs)⟩
      rcases z with z | z
      · exact hs (Or.inl z)
      · exact hqh (by rw [← z]; exact hx)
    exact hQ h' q (al_cap c) (fin h h' q (al_cap c) _ _ g2 p1 p2 (fun i hi => by rw [va_up_ne _ _ (by omega)]; exact hf7 i hi) (va_up_self _ _ _) (by omega) hcap2 (fun i hi => nob (a0.obj hi) g2) (nob ho g2)) g2 (Or.inr ⟨hnc, hqh, rfl⟩)
/-- a new list -/
theorem s_ALinit {E : Ev} {h : Hp} {l : Nat} {fs : List Value} {kc ks : Nat} {Q : Hp → Prop} (h1 : xh_at h l (.inr (0, [.int 0, .null, .int 0]))) (hQ : ∀ h', AL E h' l (E.2.1 2) 0 0 (fun _ => 0) → xg (fun a => a = l) h h' → Q h') : m_Jx4a65c_init_da8c8 E l h kc ks Q := by
  refine ⟨_, h1, by show 0 < 3; decide, _, rfl, ?_⟩
  have h2 := h1.set (e' := .inr (0, [.int 0, .null, .int 0]))
  refine ⟨_, h2, by show 1 < 3; decide, _, rfl, ?_⟩
  exact hQ _ ⟨0, h2.set, Nat.le_refl _, Or.inl ⟨rfl, rfl⟩⟩ ((xg.set (S := fun a => a = l) rfl).tr (xg.set rfl))
theorem s_clearL {E : Ev} {l d c k : Nat} {kc ks : Nat} {Q : Hp → Prop} (hk : k < 2 ^ 30) (hkc : k ≤ c) : ∀ (j : Nat) (h : Hp) (f : Nat → Option Nat), j ≤ k → xh_at h d (.inl (E.1 4, c, .inr (.inr (.inr (.inr f))))) → (∀ h', xg (fun a => a = d) h h' → (∃ f, xh_at h' d (.inl (E.1 4, c, .inr (.inr (.inr (.inr f)))))) → Q h') → m_Jx4a65c_clear_da8c8_L27 (k - j + 1) E (some d) (nI k) (nI j) h kc ks Q := by
  intro j
  induction hr : k - j generalizing j with
  | zero =>
    intro h f hj h4 hQ
    refine ⟨fun _ => hQ h xg.rf ⟨f, h4⟩, fun q => absurd (nI_le (a := k) (b := j) (by omega) (by omega)) q⟩
  | succ r ih =>
    intro h f hj h4 hQ
    refine ⟨fun q => absurd q (nI_ge (by omega) (by omega)), fun _ => ?_⟩
    refine ⟨d, rfl, c, f, h4, ?_, _, rfl, ?_⟩
    · intro q
      rcases q with q | q
      · exact nI_pos (by omega) q
      · rw [nI_clamp (by omega)] at q; omega
    · rw [nI_1]
      exact ih (j + 1) (by omega) _ _ (by omega) h4.set (fun h' g e => hQ h' ((xg.set (S := fun a => a = d) rfl).tr g) e)
theorem s_clear {E : Ev} {h : Hp} {l d n c : Nat} {el : Nat → Nat} {kc ks : Nat} {Q : Hp → Prop} (a : AL E h l d n c el) (hc : c < 2 ^ 25)
    (hQ : ∀ h', AL E h' l d 0 c el → xg (alS l d c) h h' → Q h') : m_Jx4a65c_clear_da8c8 E l h kc ks Q := by
  obtain ⟨md, h1, h2, h3⟩ := a
  refine ⟨_, _, h1, rfl, _, h1, by show 0 < 3; decide, _, rfl, ?_⟩
  have h1' := h1.set (e' := .inr (0, [.int (md + 1), .ref d, .int (nI n)]))
  refine ⟨_, some d, h1', rfl, _, _, h1', rfl, _, h1', by show 2 < 3; decide, _, rfl, ?_⟩
  have h1'' := h1'.set (e' := .inr (0, [.int (md + 1), .ref d, .int 0]))
  have gA : xg (alS l d c) h (xh_set (xh_set h l (.inr (0, [.int (md + 1), .ref d, .int (nI n)]))) l (.inr (0, [.int (md + 1), .ref d, .int 0]))) := (xg.set (S := alS l d c) (Or.inl rfl)).tr (xg.set (Or.inl rfl))
  rcases h3 with ⟨h3, hd⟩ | ⟨h3, f, h4, h5, h6⟩
  · have hn0 : n = 0 := by omega
    subst hn0
    refine ⟨1, fun _ => ?_, fun q => absurd (show nI 0 ≤ (0 : Int32) by decide) q⟩
    exact hQ _ ⟨_, h1'', Nat.zero_le _, Or.inl ⟨h3, hd⟩⟩ gA
  · have hld : d ≠ l := h4.neq h1 (by intro z; cases z)
    refine ⟨n - 0 + 1, ?_⟩
    refine s_clearL (l := l) (by omega) h2 0 _ f (by omega) ((h4.ne hld).ne hld) (fun h' g e => ?_)
    obtain ⟨f', h4'⟩ := e
    refine hQ h' ⟨_, g.at h1'' (fun z => hld z.symm), Nat.zero_le _, Or.inr ⟨h3, f', h4', fun i hi => absurd hi (Nat.not_lt_zero i), fun i y hi => absurd hi (Nat.not_lt_zero i)⟩⟩ (gA.tr (g.mono (fun x _ z => Or.inr ⟨z, by omega⟩)))
