/-! the start: the reference -/
theorem S_keep_ok : S_keep RX WF := ⟨RX_keep1, RX_keep2, RX_keep3, fun _ _ w _ => w.nx⟩
/-- what the picture holds: these objects, each its own -/
def HS (h : Hp) (L : List (Nat × va_E)) : Prop := (∀ p ∈ L, xh_at h p.1 p.2) ∧ (L.map (fun p => p.1)).Nodup
def s00 : MS := (fun _ => 0, 0, fun _ _ => 0, fun _ _ => 0)
def mF0 : List Value := [.int 0, .null, .null, .null, .null, .int 0, .int 0, .null, .null, .null, .null, .null, .null, .int 0, .int 0, .null, .int 0, .null, .null, .null, .int 0, .int 0, .null, .null, .null, .null, .null, .null, .null, .null, .null, .null, .null, .null, .null, .null, .int 0, .null, .null, .null, .null, .null, .null, .null, .null, .null, .null, .null, .null, .null, .null, .null, .long 0, .int 0, .null, .null, .null, .int 0, .null, .int 0, .null, .int 0, .null]
def fsO : List (Nat × Nat) → List Value
  | [] => mF0
  | p :: al => (fsO al).set p.1 (.ref p.2)
def enO (E : Ev) (k : Nat) : va_E := match mKA.lookup k with
  | some q => .inl (E.1 q.1, q.2, .inl (fun _ => 0))
  | none => match mKL.lookup k with
    | some N => .inl (E.1 1, N, .inr (.inl (fun _ => 0)))
    | none => .inr (0, [])
def adO (al : List (Nat × Nat)) (k : Nat) : Nat := (al.lookup k).getD 0
section START
variable {E : Ev} {h h' : Hp} {L L1 L2 : List (Nat × va_E)} {a q m k t sz N ci kc ks c d : Nat} {e e' : va_E} {fs : List Value} {al : List (Nat × Nat)}
theorem HS.x (H : HS h (L1 ++ (a, e) :: L2)) : xh_at h a e := H.1 (a, e) (List.mem_append_right _ List.mem_cons_self)
theorem HS.new (H : HS h L) (hq : q ∉ h.1) : HS (xh_new h q e) ((q, e) :: L) := by
  refine ⟨fun p hp => ?_, ?_⟩
  · rcases List.mem_cons.mp hp with rfl | hp
    · exact xh_at.newq
    · exact (H.1 p hp).new hq
  · rw [List.map_cons]
    refine List.nodup_cons.mpr ⟨fun z => ?_, H.2⟩
    obtain ⟨p, hp, e⟩ := List.mem_map.mp z
    have z2 : q = p.1 := e.symm
    rw [z2] at hq
    exact hq (H.1 p hp).1
theorem HS.set (H : HS h (L1 ++ (a, e) :: L2)) : HS (xh_set h a e') (L1 ++ (a, e') :: L2) := by
  have hx := H.x
  obtain ⟨H1, H2⟩ := H
  rw [List.map_append, List.map_cons] at H2
  have n1 : a ∉ L1.map (fun p => p.1) := fun z => (List.nodup_append.mp H2).2.2 a z a List.mem_cons_self rfl
  have n2 : a ∉ L2.map (fun p => p.1) := (List.nodup_cons.mp (List.nodup_append.mp H2).2.1).1
  refine ⟨fun p hp => ?_, by rw [List.map_append, List.map_cons]; exact H2⟩
  rcases List.mem_append.mp hp with hp | hp
  · exact (H1 p (List.mem_append_left _ hp)).ne (fun z => n1 (List.mem_map.mpr ⟨p, hp, z⟩))
  · rcases List.mem_cons.mp hp with rfl | hp
    · exact hx.set
    · exact (H1 p (List.mem_append_right _ (List.mem_cons_of_mem _ hp))).ne (fun z => n2 (List.mem_map.mpr ⟨p, hp, z⟩))
theorem HS.perm (H : HS h L) (p : L.Perm L1) : HS h L1 := ⟨fun q hq => H.1 q (p.mem_iff.mpr hq), (p.map _).nodup_iff.mp H.2⟩
theorem HS.sub (H : HS h L) (p : L1.Sublist L) : HS h L1 := ⟨fun q hq => H.1 q (p.subset hq), (p.map _).nodup H.2⟩
theorem fsO_len (al : List (Nat × Nat)) : (fsO al).length = 63 := by
  induction al with
  | nil => rfl
  | cons p al ih => rw [fsO, List.length_set]; exact ih
def INV (E : Ev) (h : Hp) (m : Nat) (al : List (Nat × Nat)) (L0 : List (Nat × va_E)) : Prop := HS h ((m, .inr (13, fsO al)) :: (al.map (fun p => (p.2, enO E p.1)) ++ L0))
theorem st_m {P : Hp → Nat → Nat → Prop} {n : Int32} {mk : Nat → vp_A} (H : INV E h m al L) (hn : ¬ n < 0) (hN : n.toNatClampNeg = N) (hz : N * sz ≤ 536870912) (hk : k < 63) (he : enO E k = .inl (E.1 t, mk N)) (hc : c + 1 ≤ kc) (hd : d + N ≤ ks) (p : ∀ q h' kc' ks', INV E h' m ((k, q) :: al) L → c ≤ kc' → d ≤ ks' → P h' kc' ks') : nA E h kc ks t sz n mk (fun a h4 kc5 ks6 => pV h4 m 13 k (.ref a) (fun h8 => P h8 kc5 ks6)) := by
  refine ⟨N, kc - 1, ks - N, hn, hN, hz, by omega, by omega, fun q h1 hq e1 => ?_⟩
  subst e1
  have H1 : HS (xh_new h q (.inl (E.1 t, mk N))) ([(q, .inl (E.1 t, mk N))] ++ (m, .inr (13, fsO al)) :: (al.map (fun p => (p.2, enO E p.1)) ++ L)) := HS.new H hq
  refine ⟨_, H1.x, by rw [fsO_len]; exact hk, _, rfl, p q _ _ _ ?_ (by omega) (by omega)⟩
  have H2 := H1.set (e' := .inr (13, (fsO al).set k (.ref q)))
  unfold INV
  rw [List.map_cons, he]
  exact H2.perm (List.Perm.swap _ _ _)
theorem adO_mem (hk : k ∈ al.map (fun p => p.1)) : (k, adO al k) ∈ al := by
  induction al with
  | nil => exact absurd hk (by simp)
  | cons p al ih =>
    unfold adO
    rw [List.lookup_cons]
    by_cases z : k = p.1
    · have : (k == p.1) = true := by simpa using z
      rw [this]
      show (k, p.2) ∈ p :: al
      rw [z]
      exact List.mem_cons_self
    · have : (k == p.1) = false := by simpa using z
      rw [this]
      rcases List.mem_cons.mp hk with w | w
      · exact absurd w z
      · exact List.mem_cons_of_mem _ (ih w)
theorem nd_inj {al : List (Nat × Nat)} (nd : (al.map (fun p => p.2)).Nodup) {p r : Nat × Nat} (hp : p ∈ al) (hr : r ∈ al) (e : p.2 = r.2) : p = r := by
  induction al with
  | nil => exact absurd hp (by simp)
  | cons x al ih =>
    rw [List.map_cons, List.nodup_cons] at nd
    rcases List.mem_cons.mp hp with rfl | hp'
    · rcases List.mem_cons.mp hr with rfl | hr
      · rfl
      · exact absurd (List.mem_map.mpr ⟨r, hr, e.symm⟩) nd.1
    · rcases List.mem_cons.mp hr with rfl | hr'
      · exact absurd (show r.2 ∈ al.map (fun p => p.2) from List.mem_map.mpr ⟨p, hp', e⟩) nd.1
      · exact ih nd.2 hp' hr'
def kO : List Nat := [62, 60, 58, 56, 55, 54, 51, 50, 49, 48, 47, 46, 45, 44, 43, 42, 41, 40, 39, 38, 37, 35, 34, 33, 32, 31, 30, 29, 28, 27, 26, 25, 24, 23, 22, 19, 18, 17, 15, 12, 11, 10, 9, 8, 7, 4, 3, 2, 1]
theorem kO_A : ∀ q ∈ mKA, q.1 ∈ kO ∧ mKA.lookup q.1 = some q.2 := by decide +kernel
theorem kO_L : ∀ q ∈ mKL, q.1 ∈ kO ∧ mKA.lookup q.1 = none ∧ mKL.lookup q.1 = some q.2 := by decide +kernel
theorem lk_some (hk : k ∈ al.map (fun p => p.1)) : al.lookup k = some (adO al k) := by
  induction al with
  | nil => exact absurd hk (by simp)
  | cons p al ih =>
    unfold adO
    rw [List.lookup_cons]
    by_cases z : k = p.1
    · have : (k == p.1) = true := by simpa using z
      rw [this]
      rfl
    · have : (k == p.1) = false := by simpa using z
      rw [this]
      rcases List.mem_cons.mp hk with w | w
      · exact absurd w z
      · exact ih w
theorem lk_none (hk : k ∉ al.map (fun p => p.1)) : al.lookup k = none := by
  induction al with
  | nil => rfl
  | cons p al ih =>
    rw [List.map_cons] at hk
    rw [List.lookup_cons]
    have : (k == p.1) = false := by simpa using (fun z : k = p.1 => hk (by rw [z]; exact List.mem_cons_self))
    rw [this]
    exact ih (fun z => hk (List.mem_cons_of_mem _ z))
theorem fsO_get (al : List (Nat × Nat)) {i : Nat} (hi : i < 63) : (fsO al)[i]? = match al.lookup i with
    | some q => some (.ref q)
    | none => mF0[i]? := by
  induction al with
  | nil => rfl
  | cons p al ih =>
    rw [fsO, List.getElem?_set, List.lookup_cons, fsO_len]
    by_cases z : i = p.1
    · have : (i == p.1) = true := by simpa using z
      rw [this, if_pos z.symm, if_pos (by omega)]
    · have : (i == p.1) = false := by simpa using z
      rw [this, if_neg (fun w => z w.symm)]
      exact ih
theorem mF_r (ad : Nat → Nat) : ∀ i ∈ kO, (mF ad s00)[i]? = some (.ref (ad i)) := by
  intro i hi
  simp only [kO, List.mem_cons, List.not_mem_nil, or_false] at hi
  rcases hi with rfl | rfl | rfl | rfl | rfl | rfl | rfl | rfl | rfl | rfl | rfl | rfl | rfl | rfl | rfl | rfl | rfl | rfl | rfl | rfl | rfl | rfl | rfl | rfl | rfl | rfl | rfl | rfl | rfl | rfl | rfl | rfl | rfl | rfl | rfl | rfl | rfl | rfl | rfl | rfl | rfl | rfl | rfl | rfl | rfl | rfl | rfl | rfl | rfl <;> rfl
theorem mF_n (ad : Nat → Nat) : ∀ i ∈ [0, 5, 6, 13, 14, 16, 20, 21, 36, 52, 53, 57, 59, 61], (mF ad s00)[i]? = mF0[i]? := by
  intro i hi
  simp only [List.mem_cons, List.not_mem_nil, or_false] at hi
  rcases hi with rfl | rfl | rfl | rfl | rfl | rfl | rfl | rfl | rfl | rfl | rfl | rfl | rfl | rfl <;> rfl
theorem kO_n : ∀ i, i < 63 → i ∉ kO → i ∈ [0, 5, 6, 13, 14, 16, 20, 21, 36, 52, 53, 57, 59, 61] := by decide +kernel
theorem fsO_fin (hk : al.map (fun p => p.1) = kO) : fsO al = mF (adO al) s00 := by
  refine List.ext_getElem? (fun i => ?_)
  by_cases hi : i < 63
  · rw [fsO_get al hi]
    by_cases hm : i ∈ kO
    · rw [lk_some (by rw [hk]; exact hm), mF_r _ i hm]
    · rw [lk_none (by rw [hk]; exact hm), mF_n _ i (kO_n i hi hm)]
  · rw [List.getElem?_eq_none (by rw [fsO_len]; omega), List.getElem?_eq_none (by show 63 ≤ i; omega)]
theorem INV.rep (H : INV E h m al L) (hk : al.map (fun p => p.1) = kO) : RepM E h m (adO al) s00 ∧ (∀ a, FM m (adO al) a → a ∈ h.1 ∧ a ∉ L.map (fun p => p.1)) ∧ HS h L := by
  have HL : HS h L := H.sub ((List.sublist_append_right _ _).trans (List.sublist_cons_self _ _))
  have HA : ∀ p ∈ al, xh_at h p.2 (enO E p.1) := fun p hp => H.1 (p.2, enO E p.1) (List.mem_cons_of_mem _ (List.mem_append_left _ (List.mem_map.mpr ⟨p, hp, rfl⟩)))
  have xk : ∀ k, k ∈ kO → xh_at h (adO al k) (enO E k) := fun k hk' => HA (k, adO al k) (adO_mem (by rw [hk]; exact hk'))
  have mk : ∀ k, mArr k → k ∈ kO := by
    rintro k (z | z)
    · obtain ⟨q, hq, rfl⟩ := List.mem_map.mp z; exact (kO_A q hq).1
    · obtain ⟨q, hq, rfl⟩ := List.mem_map.mp z; exact (kO_L q hq).1
  have nd := H.2
  rw [List.map_cons, List.nodup_cons, List.map_append, List.nodup_append] at nd
  obtain ⟨nm, na, -, nx⟩ := nd
  have na2 : (al.map (fun p => p.2)).Nodup := by
    have : (al.map (fun p => (p.2, enO E p.1))).map (fun p => p.1) = al.map (fun p => p.2) := by rw [List.map_map]; rfl
    rw [← this]; exact na
  refine ⟨⟨?_, fun q hq => ?_, fun q hq => ?_, fun j k hj hk' e => ?_⟩, fun a ha => ?_, HL⟩
  · rw [← fsO_fin hk]; exact H.1 _ List.mem_cons_self
  · have := xk q.1 (kO_A q hq).1
    unfold enO at this
    rw [(kO_A q hq).2] at this
    exact this
  · have := xk q.1 (kO_L q hq).1
    unfold enO at this
    rw [(kO_L q hq).2.1, (kO_L q hq).2.2] at this
    exact this
  · have h1 := adO_mem (al := al) (k := j) (by rw [hk]; exact mk j hj)
    have h2 := adO_mem (al := al) (k := k) (by rw [hk]; exact mk k hk')
    exact congrArg (fun p : Nat × Nat => p.1) (nd_inj na2 h1 h2 e)
  · rcases ha with rfl | ⟨k, hk', rfl⟩
    · exact ⟨(H.1 _ List.mem_cons_self).1, fun z => nm (List.mem_append_right _ z)⟩
    · refine ⟨(xk k (mk k hk')).1, fun z => ?_⟩
      have h1 := adO_mem (al := al) (k := k) (by rw [hk]; exact mk k hk')
      exact nx (adO al k) (List.mem_map.mpr ⟨(adO al k, enO E k), List.mem_map.mpr ⟨(k, adO al k), h1, rfl⟩, rfl⟩) _ z rfl
set_option maxRecDepth 100000 in
theorem s_init12 {Q : Hp → Prop} (H : INV E h m [] L) (hQ : ∀ h' al, INV E h' m al L → al.map (fun p => p.1) = kO → Q h') : m_X12_init E m h 49 77592 Q := by
  unfold m_X12_init
  refine st_m (k := 1) (N := 4096) (c := 48) (d := 73496) H (by decide) (by decide +kernel) (by decide) (by decide) (by rfl) (by omega) (by omega) (fun q0 h0 kc0 ks0 H0 c0 d0 => ?_)
  refine st_m (k := 2) (N := 4096) (c := 47) (d := 69400) H0 (by decide) (by decide +kernel) (by decide) (by decide) (by rfl) (by omega) (by omega) (fun q1 h1 kc1 ks1 H1 c1 d1 => ?_)
  clear H0 c0 d0
  refine st_m (k := 3) (N := 49152) (c := 46) (d := 20248) H1 (by decide) (by decide +kernel) (by decide) (by decide) (by rfl) (by omega) (by omega) (fun q2 h2 kc2 ks2 H2 c2 d2 => ?_)
  clear H1 c1 d1
  refine st_m (k := 4) (N := 12) (c := 45) (d := 20236) H2 (by decide) (by decide +kernel) (by decide) (by decide) (by rfl) (by omega) (by omega) (fun q3 h3 kc3 ks3 H3 c3 d3 => ?_)
  clear H2 c2 d2
  refine st_m (k := 7) (N := 60) (c := 44) (d := 20176) H3 (by decide) (by decide +kernel) (by decide) (by decide) (by rfl) (by omega) (by omega) (fun q4 h4 kc4 ks4 H4 c4 d4 => ?_)
  clear H3 c3 d3
  refine st_m (k := 8) (N := 60) (c := 43) (d := 20116) H4 (by decide) (by decide +kernel) (by decide) (by decide) (by rfl) (by omega) (by omega) (fun q5 h5 kc5 ks5 H5 c5 d5 => ?_)
  clear H4 c4 d4
  refine st_m (k := 9) (N := 60) (c := 42) (d := 20056) H5 (by decide) (by decide +kernel) (by decide) (by decide) (by rfl) (by omega) (by omega) (fun q6 h6 kc6 ks6 H6 c6 d6 => ?_)
  clear H5 c5 d5
  refine st_m (k := 10) (N := 60) (c := 41) (d := 19996) H6 (by decide) (by decide +kernel) (by decide) (by decide) (by rfl) (by omega) (by omega) (fun q7 h7 kc7 ks7 H7 c7 d7 => ?_)
  clear H6 c6 d6
  refine st_m (k := 11) (N := 60) (c := 40) (d := 19936) H7 (by decide) (by decide +kernel) (by decide) (by decide) (by rfl) (by omega) (by omega) (fun q8 h8 kc8 ks8 H8 c8 d8 => ?_)
  clear H7 c7 d7
  refine st_m (k := 12) (N := 3840) (c := 39) (d := 16096) H8 (by decide) (by decide +kernel) (by decide) (by decide) (by rfl) (by omega) (by omega) (fun q9 h9 kc9 ks9 H9 c9 d9 => ?_)
  clear H8 c8 d8
  refine st_m (k := 15) (N := 64) (c := 38) (d := 16032) H9 (by decide) (by decide +kernel) (by decide) (by decide) (by rfl) (by omega) (by omega) (fun q10 h10 kc10 ks10 H10 c10 d10 => ?_)
  clear H9 c9 d9
  refine st_m (k := 17) (N := 12) (c := 37) (d := 16020) H10 (by decide) (by decide +kernel) (by decide) (by decide) (by rfl) (by omega) (by omega) (fun q11 h11 kc11 ks11 H11 c11 d11 => ?_)
  clear H10 c10 d10
  refine st_m (k := 18) (N := 12) (c := 36) (d := 16008) H11 (by decide) (by decide +kernel) (by decide) (by decide) (by rfl) (by omega) (by omega) (fun q12 h12 kc12 ks12 H12 c12 d12 => ?_)
  clear H11 c11 d11
  refine st_m (k := 19) (N := 64) (c := 35) (d := 15944) H12 (by decide) (by decide +kernel) (by decide) (by decide) (by rfl) (by omega) (by omega) (fun q13 h13 kc13 ks13 H13 c13 d13 => ?_)
  clear H12 c12 d12
  refine st_m (k := 22) (N := 16) (c := 34) (d := 15928) H13 (by decide) (by decide +kernel) (by decide) (by decide) (by rfl) (by omega) (by omega) (fun q14 h14 kc14 ks14 H14 c14 d14 => ?_)
  clear H13 c13 d13
  refine st_m (k := 23) (N := 16) (c := 33) (d := 15912) H14 (by decide) (by decide +kernel) (by decide) (by decide) (by rfl) (by omega) (by omega) (fun q15 h15 kc15 ks15 H15 c15 d15 => ?_)
  clear H14 c14 d14
  refine st_m (k := 24) (N := 16) (c := 32) (d := 15896) H15 (by decide) (by decide +kernel) (by decide) (by decide) (by rfl) (by omega) (by omega) (fun q16 h16 kc16 ks16 H16 c16 d16 => ?_)
  clear H15 c15 d15
  refine st_m (k := 25) (N := 16) (c := 31) (d := 15880) H16 (by decide) (by decide +kernel) (by decide) (by decide) (by rfl) (by omega) (by omega) (fun q17 h17 kc17 ks17 H17 c17 d17 => ?_)
  clear H16 c16 d16
  refine st_m (k := 26) (N := 16) (c := 30) (d := 15864) H17 (by decide) (by decide +kernel) (by decide) (by decide) (by rfl) (by omega) (by omega) (fun q18 h18 kc18 ks18 H18 c18 d18 => ?_)
  clear H17 c17 d17
  refine st_m (k := 27) (N := 16) (c := 29) (d := 15848) H18 (by decide) (by decide +kernel) (by decide) (by decide) (by rfl) (by omega) (by omega) (fun q19 h19 kc19 ks19 H19 c19 d19 => ?_)
  clear H18 c18 d18
  refine st_m (k := 28) (N := 16) (c := 28) (d := 15832) H19 (by decide) (by decide +kernel) (by decide) (by decide) (by rfl) (by omega) (by omega) (fun q20 h20 kc20 ks20 H20 c20 d20 => ?_)
  clear H19 c19 d19
  refine st_m (k := 29) (N := 16) (c := 27) (d := 15816) H20 (by decide) (by decide +kernel) (by decide) (by decide) (by rfl) (by omega) (by omega) (fun q21 h21 kc21 ks21 H21 c21 d21 => ?_)
  clear H20 c20 d20
  refine st_m (k := 30) (N := 16) (c := 26) (d := 15800) H21 (by decide) (by decide +kernel) (by decide) (by decide) (by rfl) (by omega) (by omega) (fun q22 h22 kc22 ks22 H22 c22 d22 => ?_)
  clear H21 c21 d21
  refine st_m (k := 31) (N := 16) (c := 25) (d := 15784) H22 (by decide) (by decide +kernel) (by decide) (by decide) (by rfl) (by omega) (by omega) (fun q23 h23 kc23 ks23 H23 c23 d23 => ?_)
  clear H22 c22 d22
  refine st_m (k := 32) (N := 16) (c := 24) (d := 15768) H23 (by decide) (by decide +kernel) (by decide) (by decide) (by rfl) (by omega) (by omega) (fun q24 h24 kc24 ks24 H24 c24 d24 => ?_)
  clear H23 c23 d23
  refine st_m (k := 33) (N := 16) (c := 23) (d := 15752) H24 (by decide) (by decide +kernel) (by decide) (by decide) (by rfl) (by omega) (by omega) (fun q25 h25 kc25 ks25 H25 c25 d25 => ?_)
  clear H24 c24 d24
  refine st_m (k := 34) (N := 16) (c := 22) (d := 15736) H25 (by decide) (by decide +kernel) (by decide) (by decide) (by rfl) (by omega) (by omega) (fun q26 h26 kc26 ks26 H26 c26 d26 => ?_)
  clear H25 c25 d25
  refine st_m (k := 35) (N := 16) (c := 21) (d := 15720) H26 (by decide) (by decide +kernel) (by decide) (by decide) (by rfl) (by omega) (by omega) (fun q27 h27 kc27 ks27 H27 c27 d27 => ?_)
  clear H26 c26 d26
  refine st_m (k := 37) (N := 8) (c := 20) (d := 15712) H27 (by decide) (by decide +kernel) (by decide) (by decide) (by rfl) (by omega) (by omega) (fun q28 h28 kc28 ks28 H28 c28 d28 => ?_)
  clear H27 c27 d27
  refine st_m (k := 38) (N := 8) (c := 19) (d := 15704) H28 (by decide) (by decide +kernel) (by decide) (by decide) (by rfl) (by omega) (by omega) (fun q29 h29 kc29 ks29 H29 c29 d29 => ?_)
  clear H28 c28 d28
  refine st_m (k := 39) (N := 8) (c := 18) (d := 15696) H29 (by decide) (by decide +kernel) (by decide) (by decide) (by rfl) (by omega) (by omega) (fun q30 h30 kc30 ks30 H30 c30 d30 => ?_)
  clear H29 c29 d29
  refine st_m (k := 40) (N := 8) (c := 17) (d := 15688) H30 (by decide) (by decide +kernel) (by decide) (by decide) (by rfl) (by omega) (by omega) (fun q31 h31 kc31 ks31 H31 c31 d31 => ?_)
  clear H30 c30 d30
  refine st_m (k := 41) (N := 8) (c := 16) (d := 15680) H31 (by decide) (by decide +kernel) (by decide) (by decide) (by rfl) (by omega) (by omega) (fun q32 h32 kc32 ks32 H32 c32 d32 => ?_)
  clear H31 c31 d31
  refine st_m (k := 42) (N := 8) (c := 15) (d := 15672) H32 (by decide) (by decide +kernel) (by decide) (by decide) (by rfl) (by omega) (by omega) (fun q33 h33 kc33 ks33 H33 c33 d33 => ?_)
  clear H32 c32 d32
  refine st_m (k := 43) (N := 8) (c := 14) (d := 15664) H33 (by decide) (by decide +kernel) (by decide) (by decide) (by rfl) (by omega) (by omega) (fun q34 h34 kc34 ks34 H34 c34 d34 => ?_)
  clear H33 c33 d33
  refine st_m (k := 44) (N := 8) (c := 13) (d := 15656) H34 (by decide) (by decide +kernel) (by decide) (by decide) (by rfl) (by omega) (by omega) (fun q35 h35 kc35 ks35 H35 c35 d35 => ?_)
  clear H34 c34 d34
  refine st_m (k := 45) (N := 8) (c := 12) (d := 15648) H35 (by decide) (by decide +kernel) (by decide) (by decide) (by rfl) (by omega) (by omega) (fun q36 h36 kc36 ks36 H36 c36 d36 => ?_)
  clear H35 c35 d35
  refine st_m (k := 46) (N := 8) (c := 11) (d := 15640) H36 (by decide) (by decide +kernel) (by decide) (by decide) (by rfl) (by omega) (by omega) (fun q37 h37 kc37 ks37 H37 c37 d37 => ?_)
  clear H36 c36 d36
  refine st_m (k := 47) (N := 8) (c := 10) (d := 15632) H37 (by decide) (by decide +kernel) (by decide) (by decide) (by rfl) (by omega) (by omega) (fun q38 h38 kc38 ks38 H38 c38 d38 => ?_)
  clear H37 c37 d37
  refine st_m (k := 48) (N := 8) (c := 9) (d := 15624) H38 (by decide) (by decide +kernel) (by decide) (by decide) (by rfl) (by omega) (by omega) (fun q39 h39 kc39 ks39 H39 c39 d39 => ?_)
  clear H38 c38 d38
  refine st_m (k := 49) (N := 8) (c := 8) (d := 15616) H39 (by decide) (by decide +kernel) (by decide) (by decide) (by rfl) (by omega) (by omega) (fun q40 h40 kc40 ks40 H40 c40 d40 => ?_)
  clear H39 c39 d39
  refine st_m (k := 50) (N := 8) (c := 7) (d := 15608) H40 (by decide) (by decide +kernel) (by decide) (by decide) (by rfl) (by omega) (by omega) (fun q41 h41 kc41 ks41 H41 c41 d41 => ?_)
  clear H40 c40 d40
  refine st_m (k := 51) (N := 8) (c := 6) (d := 15600) H41 (by decide) (by decide +kernel) (by decide) (by decide) (by rfl) (by omega) (by omega) (fun q42 h42 kc42 ks42 H42 c42 d42 => ?_)
  clear H41 c41 d41
  refine st_m (k := 54) (N := 600) (c := 5) (d := 15000) H42 (by decide) (by decide +kernel) (by decide) (by decide) (by rfl) (by omega) (by omega) (fun q43 h43 kc43 ks43 H43 c43 d43 => ?_)
  clear H42 c42 d42
  refine st_m (k := 55) (N := 600) (c := 4) (d := 14400) H43 (by decide) (by decide +kernel) (by decide) (by decide) (by rfl) (by omega) (by omega) (fun q44 h44 kc44 ks44 H44 c44 d44 => ?_)
  clear H43 c43 d43
  refine st_m (k := 56) (N := 4200) (c := 3) (d := 10200) H44 (by decide) (by decide +kernel) (by decide) (by decide) (by rfl) (by omega) (by omega) (fun q45 h45 kc45 ks45 H45 c45 d45 => ?_)
  clear H44 c44 d44
  refine st_m (k := 58) (N := 1800) (c := 2) (d := 8400) H45 (by decide) (by decide +kernel) (by decide) (by decide) (by rfl) (by omega) (by omega) (fun q46 h46 kc46 ks46 H46 c46 d46 => ?_)
  clear H45 c45 d45
  refine st_m (k := 60) (N := 4200) (c := 1) (d := 4200) H46 (by decide) (by decide +kernel) (by decide) (by decide) (by rfl) (by omega) (by omega) (fun q47 h47 kc47 ks47 H47 c47 d47 => ?_)
  clear H46 c46 d46
  refine st_m (k := 62) (N := 4200) (c := 0) (d := 0) H47 (by decide) (by decide +kernel) (by decide) (by decide) (by rfl) (by omega) (by omega) (fun q48 h48 kc48 ks48 H48 c48 d48 => ?_)
  clear H47 c47 d47
  exact hQ _ _ H48 rfl
end START
