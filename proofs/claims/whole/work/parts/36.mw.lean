/-! walking the reference's functions -/
def Mw {α : Type} (o : Option (α × MS)) (P : α → MS → Prop) : Prop := ∃ r s, o = some (r, s) ∧ P r s
def Mv (o : Option MS) (P : MS → Prop) : Prop := ∃ s, o = some s ∧ P s
section MW
variable {α β : Type} {s : MS} {P : α → MS → Prop} {V : MS → Prop}
theorem Mw.r {r : α} (h : P r s) : Mw (some (r, s)) P := ⟨r, s, rfl, h⟩
theorem Mv.r (h : V s) : Mv (some s) V := ⟨s, rfl, h⟩
theorem Mw.b {o : Option (β × MS)} {f : β × MS → Option (α × MS)} (h : Mw o (fun r s => Mw (f (r, s)) P)) : Mw (o.bind f) P := by
  obtain ⟨r, s, rfl, h⟩ := h
  exact h
theorem Mw.bv {o : Option MS} {f : MS → Option (α × MS)} (h : Mv o (fun s => Mw (f s) P)) : Mw (o.bind f) P := by
  obtain ⟨s, rfl, h⟩ := h
  exact h
theorem Mv.b {o : Option (β × MS)} {f : β × MS → Option MS} (h : Mw o (fun r s => Mv (f (r, s)) V)) : Mv (o.bind f) V := by
  obtain ⟨r, s, rfl, h⟩ := h
  exact h
theorem Mv.bv {o : Option MS} {f : MS → Option MS} (h : Mv o (fun s => Mv (f s) V)) : Mv (o.bind f) V := by
  obtain ⟨s, rfl, h⟩ := h
  exact h
theorem Mw.n {c : Prop} [Decidable c] {b : Option (α × MS)} (hc : ¬ c) (h : Mw b P) : Mw (if c then none else b) P := by rw [if_neg hc]; exact h
theorem Mv.n {c : Prop} [Decidable c] {b : Option MS} (hc : ¬ c) (h : Mv b V) : Mv (if c then none else b) V := by rw [if_neg hc]; exact h
theorem Mw.no {c : Prop} [Decidable c] {a b : Option (α × MS)} (hc : ¬ c) (h : Mw b P) : Mw (if c then a else b) P := by rw [if_neg hc]; exact h
theorem Mv.no {c : Prop} [Decidable c] {a b : Option MS} (hc : ¬ c) (h : Mv b V) : Mv (if c then a else b) V := by rw [if_neg hc]; exact h
theorem Mw.y {c : Prop} [Decidable c] {a b : Option (α × MS)} (hc : c) (h : Mw a P) : Mw (if c then a else b) P := by rw [if_pos hc]; exact h
theorem Mv.y {c : Prop} [Decidable c] {a b : Option MS} (hc : c) (h : Mv a V) : Mv (if c then a else b) V := by rw [if_pos hc]; exact h
theorem Mw.i {c : Prop} [Decidable c] {a b : Option (α × MS)} (h1 : c → Mw a P) (h2 : ¬ c → Mw b P) : Mw (if c then a else b) P := by
  by_cases hc : c
  · rw [if_pos hc]; exact h1 hc
  · rw [if_neg hc]; exact h2 hc
theorem Mv.i {c : Prop} [Decidable c] {a b : Option MS} (h1 : c → Mv a V) (h2 : ¬ c → Mv b V) : Mv (if c then a else b) V := by
  by_cases hc : c
  · rw [if_pos hc]; exact h1 hc
  · rw [if_neg hc]; exact h2 hc
theorem Mw.m {o : Option (α × MS)} {Q : α → MS → Prop} (h : Mw o P) (hq : ∀ r s, P r s → Q r s) : Mw o Q := by
  obtain ⟨r, s, e, h⟩ := h
  exact ⟨r, s, e, hq r s h⟩
theorem Mv.m {o : Option MS} {Q : MS → Prop} (h : Mv o V) (hq : ∀ s, V s → Q s) : Mv o Q := by
  obtain ⟨s, e, h⟩ := h
  exact ⟨s, e, hq s h⟩
theorem Mw.e {o : Option (α × MS)} {r : α} {s : MS} (e : o = some (r, s)) (h : P r s) : Mw o P := ⟨r, s, e, h⟩
theorem Mv.e {o : Option MS} {s : MS} (e : o = some s) (h : V s) : Mv o V := ⟨s, e, h⟩
/-- the reference's row of numbers to be sealed -/
def rowS (s : MS) (l : List Int64) : MS := (va_up s.1 5 (nI l.length), s.2.1, s.2.2.1, va_up s.2.2.2 4 (fun i => if i < l.length then l.getD i 0 else s.2.2.2 4 i))
theorem M_begin_eq (s : MS) (v : Int64) : M_begin s v = some (rowS s [v]) := by
  unfold M_begin
  rw [if_neg (by decide)]
  dsimp only [lt1]
  have : vp_updL (s.2.2.2 4) (0 : Int32).toNatClampNeg v = (fun i => if i < [v].length then [v].getD i 0 else s.2.2.2 4 i) := by
    funext i
    show vp_updL (s.2.2.2 4) 0 v i = _
    by_cases e : i = 0
    · subst e; rw [pk_uLs, if_pos (by simp)]; rfl
    · rw [pk_uLn e, if_neg (by simp; omega)]
  show some (va_up s.1 5 1, s.2.1, s.2.2.1, va_up s.2.2.2 4 (vp_updL (s.2.2.2 4) (0 : Int32).toNatClampNeg v)) = _
  rw [this]
  rfl
theorem M_more_eq (s : MS) {l : List Int64} (v : Int64) (hl : l.length < 12) : M_more (rowS s l) v = some (rowS s (l ++ [v])) := by
  unfold M_more
  have h5 : (rowS s l).1 5 = nI l.length := rfl
  rw [h5, if_neg (nI_in hl (by omega)), nI_clamp (by omega)]
  dsimp only [lt1]
  have : vp_updL (fun i => if i < l.length then l.getD i 0 else s.2.2.2 4 i) l.length v = (fun i => if i < (l ++ [v]).length then (l ++ [v]).getD i 0 else s.2.2.2 4 i) := by
    funext i
    by_cases e : i = l.length
    · subst e
      rw [pk_uLs, if_pos (by simp), List.getD_eq_getElem?_getD, List.getElem?_append_right (Nat.le_refl _)]
      simp
    · rw [pk_uLn e]
      by_cases z : i < l.length
      · rw [if_pos z, if_pos (by simp; omega), List.getD_eq_getElem?_getD, List.getD_eq_getElem?_getD, List.getElem?_append_left z]
      · rw [if_neg z, if_neg (by simp; omega)]
  show some (va_up (va_up s.1 5 (nI l.length)) 5 (nI l.length + 1), s.2.1, s.2.2.1, va_up (va_up s.2.2.2 4 _) 4 (vp_updL _ l.length v)) = _
  rw [va_up2, va_up2, nI_1]
  show some (_, _, _, va_up s.2.2.2 4 (vp_updL (fun i => if i < l.length then l.getD i 0 else s.2.2.2 4 i) l.length v)) = _
  rw [this]
  unfold rowS
  rw [List.length_append]
  rfl
theorem Mv.beg {v : Int64} (h : V (rowS s [v])) : Mv (M_begin s v) V := ⟨_, M_begin_eq s v, h⟩
theorem Mv.more {l : List Int64} {v : Int64} (hl : l.length < 12) (h : V (rowS s (l ++ [v]))) : Mv (M_more (rowS s l) v) V := ⟨_, M_more_eq s v hl, h⟩
theorem Mw.begb {v : Int64} {f : MS → Option (α × MS)} (h : Mw (f (rowS s [v])) P) : Mw ((M_begin s v).bind f) P := by rw [M_begin_eq]; exact h
theorem Mv.begb {v : Int64} {f : MS → Option MS} (h : Mv (f (rowS s [v])) V) : Mv ((M_begin s v).bind f) V := by rw [M_begin_eq]; exact h
theorem Mw.moreb {l : List Int64} {v : Int64} {f : MS → Option (α × MS)} (hl : l.length < 12) (h : Mw (f (rowS s (l ++ [v]))) P) : Mw ((M_more (rowS s l) v).bind f) P := by rw [M_more_eq s v hl]; exact h
theorem Mv.moreb {l : List Int64} {v : Int64} {f : MS → Option MS} (hl : l.length < 12) (h : Mv (f (rowS s (l ++ [v]))) V) : Mv ((M_more (rowS s l) v).bind f) V := by rw [M_more_eq s v hl]; exact h
end MW
/-- the reference's row is l: sealing it, looking at a seal of it -/
def rowl (s : MS) (l : List Int64) : Prop := s.1 5 = nI l.length ∧ ∀ i, i < l.length → s.2.2.2 4 i = l.getD i 0
theorem rowS_l (s : MS) (l : List Int64) : rowl (rowS s l) l := ⟨rfl, fun i hi => by show (if i < l.length then l.getD i 0 else s.2.2.2 4 i) = _; rw [if_pos hi]⟩
theorem M_seal_row {s : MS} {l : List Int64} {n cp : Nat → Nat} (hl : rowl s l) (hlen : l.length ≤ 12) (h0 : s.1 0 = nI (n 4)) (hn4 : n 4 < 4096) (sort : Int32) (num : Int64) : ∃ r s' n' cp', M_seal s sort num = some (r, s') ∧ SealR s (256 * sort + num.toInt32) l.length (fun i => l.getD i 0) n cp r s' n' cp' := by
  obtain ⟨r, s', n', cp', h1, h2⟩ := M_seal_spec (cp := cp) hl.1 hlen h0 hn4 sort num
  exact ⟨r, s', n', cp', h1, h2.c hl.2⟩
theorem Good.c {s : MS} {key : Int32} {rs n4 : Nat} {g g' : Nat → Int64} {v : Int64} (h : Good s key rs g n4 v) (e : ∀ i, i < rs → g i = g' i) : Good s key rs g' n4 v := by
  obtain ⟨j, h1, h2, h3⟩ := h
  exact ⟨j, h1, h2, h3.c e⟩
theorem M_good_row {s : MS} {l : List Int64} {n4 : Nat} (hl : rowl s l) (hlen : l.length ≤ 12) (h0 : s.1 0 = nI n4) (hn4 : n4 ≤ 4096) (hD : Dist s n4) (sort : Int32) (num v : Int64) : (Good s (256 * sort + num.toInt32) l.length (fun i => l.getD i 0) n4 v → M_isGood s sort num v = some (1, s)) ∧ (¬ Good s (256 * sort + num.toInt32) l.length (fun i => l.getD i 0) n4 v → M_isGood s sort num v = some (0, s)) := by
  obtain ⟨h1, h2⟩ := M_isGood_spec hl.1 hlen h0 hn4 hD sort num v
  exact ⟨fun q => h1 (q.c (fun i hi => (hl.2 i hi).symm)), fun q => h2 (fun z => q (z.c hl.2))⟩
