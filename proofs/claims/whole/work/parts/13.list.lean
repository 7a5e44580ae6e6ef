/-! frames with new addresses; ArrayLists in a picture -/
def xg (S : Nat → Prop) (h h' : Hp) : Prop := (∀ a, a ∈ h.1 → a ∈ h'.1) ∧ ∀ a, a ∈ h.1 → ¬ S a → h'.2 a = h.2 a
theorem xg.rf {S : Nat → Prop} {h : Hp} : xg S h h := ⟨fun _ q => q, fun _ _ _ => rfl⟩
theorem xg.tr {S : Nat → Prop} {h h1 h2 : Hp} (a : xg S h h1) (b : xg S h1 h2) : xg S h h2 := ⟨fun x q => b.1 x (a.1 x q), fun x q hx => (b.2 x (a.1 x q) hx).trans (a.2 x q hx)⟩
theorem xg.mono {S T : Nat → Prop} {h h' : Hp} (a : xg S h h') (st : ∀ x, x ∈ h.1 → S x → T x) : xg T h h' := ⟨a.1, fun x q hx => a.2 x q (fun z => hx (st x q z))⟩
theorem xg.set {S : Nat → Prop} {h : Hp} {a : Nat} {e : va_E} (ha : S a) : xg S h (xh_set h a e) := ⟨fun _ q => q, fun x _ hx => va_up_ne _ _ (fun q => hx (by rw [q]; exact ha))⟩
theorem xg.new {S : Nat → Prop} {h : Hp} {a : Nat} {e : va_E} (ha : a ∉ h.1) : xg S h (xh_new h a e) := ⟨fun _ q => List.mem_append_left _ q, fun x hx _ => va_up_ne _ _ (fun q => ha (by rw [← q]; exact hx))⟩
/-- a write at an address that is new since h -/
theorem xg.setn {S : Nat → Prop} {h h1 : Hp} {a : Nat} {e : va_E} (g : xg S h h1) (ha : a ∉ h.1) : xg S h (xh_set h1 a e) := ⟨g.1, fun x hx hs => (va_up_ne _ _ (fun q => ha (by rw [← q]; exact hx))).trans (g.2 x hx hs)⟩
theorem xg.at {S : Nat → Prop} {h h' : Hp} {a : Nat} {e : va_E} (g : xg S h h') (ha : xh_at h a e) (hs : ¬ S a) : xh_at h' a e := ⟨g.1 a ha.1, (g.2 a ha.1 hs).trans ha.2⟩
theorem xf.g {S : Nat → Prop} {h h' : Hp} (f : xf S h h') : xg S h h' := ⟨fun a q => by rw [f.1]; exact q, fun a _ hs => f.2 a hs⟩
theorem xh_at.new {h : Hp} {a q : Nat} {e e' : va_E} (ha : xh_at h a e) (hq : q ∉ h.1) : xh_at (xh_new h q e') a e := ⟨List.mem_append_left _ ha.1, (va_up_ne _ _ (fun z => hq (by rw [← z]; exact ha.1))).trans ha.2⟩
theorem xh_at.newq {h : Hp} {q : Nat} {e' : va_E} : xh_at (xh_new h q e') q e' := ⟨List.mem_append_right _ (List.mem_singleton.mpr rfl), va_up_self _ _ _⟩
theorem xh_at.neq {h : Hp} {a b : Nat} {e e' : va_E} (ha : xh_at h a e) (hb : xh_at h b e') (hn : e ≠ e') : a ≠ b := fun q => hn (by rw [← ha.2, ← hb.2, q])
theorem xh_at.fresh {h : Hp} {a q : Nat} {e : va_E} (ha : xh_at h a e) (hq : q ∉ h.1) : a ≠ q := fun z => hq (by rw [← z]; exact ha.1)
theorem xo_at.g {S : Nat → Prop} {h h' : Hp} {a : Nat} (g : xg S h h') (ha : xo_at h a) (hs : ¬ S a) : xo_at h' a := by
  obtain ⟨ci, fs, h1, h2⟩ := ha
  exact ⟨ci, fs, h1, g.at h2 hs⟩
/-- an ArrayList at l, its row at d with room for c, n elements el -/
def AL (E : Ev) (h : Hp) (l d n c : Nat) (el : Nat → Nat) : Prop :=
  ∃ md, xh_at h l (.inr (0, [.int md, .ref d, .int (nI n)])) ∧ n ≤ c ∧ ((c = 0 ∧ d = E.2.1 2) ∨ (10 ≤ c ∧ ∃ f, xh_at h d (.inl (E.1 4, c, .inr (.inr (.inr (.inr f))))) ∧ (∀ i, i < n → f i = some (el i)) ∧ ∀ i y, i < n → f i = some y → xo_at h y))
def al_cap (c : Nat) : Nat := if c = 0 then 10 else c + c / 2
theorem AL.g {S : Nat → Prop} {E : Ev} {h h' : Hp} {l d n c : Nat} {el : Nat → Nat} (a : AL E h l d n c el) (g : xg S h h') (hl : ¬ S l) (hd : ¬ S d) (he : ∀ i, i < n → ¬ S (el i)) : AL E h' l d n c el := by
  obtain ⟨md, h1, h2, h3⟩ := a
  refine ⟨md, g.at h1 hl, h2, ?_⟩
  rcases h3 with h3 | ⟨h3, f, h4, h5, h6⟩
  · exact Or.inl h3
  · exact Or.inr ⟨h3, f, g.at h4 hd, h5, fun i y hi hy => (h6 i y hi hy).g g (by have := h5 i hi; rw [hy] at this; cases this; exact he i hi)⟩
theorem AL.obj {E : Ev} {h : Hp} {l d n c : Nat} {el : Nat → Nat} (a : AL E h l d n c el) {i : Nat} (hi : i < n) : xo_at h (el i) := by
  obtain ⟨md, h1, h2, h3⟩ := a
  rcases h3 with ⟨h3, -⟩ | ⟨h3, f, h4, h5, h6⟩
  · omega
  · exact h6 i _ hi (h5 i hi)
theorem AL.isO {E : Ev} {h : Hp} {l d n c : Nat} {el : Nat → Nat} (a : AL E h l d n c el) {P : Prop} (p : P) : isO h l 0 P := by
  obtain ⟨md, h1, -⟩ := a
  exact ⟨⟨_, h1⟩, p⟩
theorem s_size {E : Ev} {h : Hp} {l d n c : Nat} {el : Nat → Nat} {kc ks : Nat} {Q : Int32 → Hp → Prop} (a : AL E h l d n c el) (hQ : Q (nI n) h) : m_Jx4a65c_size_8abf5 E l h kc ks Q := by
  obtain ⟨md, h1, -⟩ := a
  exact ⟨_, _, h1, rfl, hQ⟩
theorem s_get {E : Ev} {h : Hp} {l d n c i : Nat} {el : Nat → Nat} {kc ks : Nat} {Q : Option Nat → Hp → Prop} (a : AL E h l d n c el) (hn : n < 2 ^ 31) (hi : i < n) (hQ : Q (some (el i)) h) : m_Jx4a65c_get_915e3 E l (nI i) h kc ks Q := by
  obtain ⟨md, h1, h2, h3⟩ := a
  rcases h3 with ⟨h3, -⟩ | ⟨h3, f, h4, h5, h6⟩
  · omega
  refine ⟨_, _, h1, rfl, ?_⟩
  refine ⟨fun q => absurd q (nI_pos (by omega)), fun _ => ⟨fun _ => ?_, fun q => absurd (nI_lt hi hn) q⟩⟩
  refine ⟨⟨_, h1⟩, ?_⟩
  refine ⟨_, some d, h1, rfl, d, rfl, c, f, some (el i), h4, ?_, ?_, hQ⟩
  · intro q
    rcases q with q | q
    · exact nI_pos (by omega) q
    · rw [nI_clamp (by omega)] at q; omega
  · rw [nI_clamp (by omega)]; exact h5 i hi
