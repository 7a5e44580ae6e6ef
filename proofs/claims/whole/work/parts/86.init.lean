/-! the start: both stand for each other -/
def pi0 : List Nat := [0, 5, 2, 17, 14, 8, 6, 9, 7, 1, 18, 15, 13, 12, 11, 10, 16, 4, 3]
theorem pi0_in : ∀ j, j ≤ 18 → pi0.getD j 0 < 19 := by decide +kernel
theorem pi0_inj : ∀ j, j ≤ 18 → ∀ j', j' ≤ 18 → pi0.getD j 0 = pi0.getD j' 0 → j = j' := by decide +kernel
def y00 (E : Ev) (l : List Nat) : Nat → Nat → Nat := fun k j => if k = 0 then l.getD (pi0.getD j 0) 0 else E.2.1 2
section INIT
variable {E : Ev} {h : Hp} {L : List (Nat × va_E)} {i : Nat} {p : Nat × va_E}
theorem HS.at (H : HS h L) (e : L[i]? = some p) : xh_at h p.1 p.2 := H.1 p (List.mem_of_getElem? e)
theorem gd_inj {l : List Nat} (nd : l.Nodup) : ∀ i j, i < l.length → j < l.length → l.getD i 0 = l.getD j 0 → i = j := by
  induction l with
  | nil => intro i j hi; exact absurd hi (Nat.not_lt_zero _)
  | cons a l ih =>
    intro i j hi hj e
    rw [List.nodup_cons] at nd
    have mem : ∀ q, q < l.length → l.getD q 0 ∈ l := fun q hq => by
      rw [List.getD_eq_getElem?_getD, List.getElem?_eq_getElem hq]
      exact List.getElem_mem hq
    rw [List.length_cons] at hi hj
    match i, j with
    | 0, 0 => rfl
    | 0, j + 1 =>
      have e' : a = l.getD j 0 := by simpa using e
      exact absurd (e' ▸ mem j (by omega)) nd.1
    | i + 1, 0 =>
      have e' : l.getD i 0 = a := by simpa using e
      exact absurd (e' ▸ mem i (by omega)) nd.1
    | i + 1, j + 1 =>
      have e' : l.getD i 0 = l.getD j 0 := by simpa using e
      rw [ih nd.2 i j (by omega) (by omega) e']
theorem gd_mem {l : List Nat} {q : Nat} (hq : q < l.length) : l.getD q 0 ∈ l := by
  rw [List.getD_eq_getElem?_getD, List.getElem?_eq_getElem hq]
  exact List.getElem_mem hq
theorem WF_00 : WF 0 s00 := by
  have ok0 : okB 0 := ⟨0, Nat.zero_le _, nI_0.symm⟩
  refine ⟨fun _ => 0, ⟨⟨nI_0.symm, Nat.zero_le _⟩, ⟨nI_0.symm, Nat.zero_le _⟩, ⟨nI_0.symm, Nat.zero_le _⟩, ⟨nI_0.symm, Nat.zero_le _⟩, ⟨nI_0.symm, Nat.le_refl _⟩, ⟨nI_0.symm, Nat.zero_le _⟩, ⟨nI_0.symm, Nat.zero_le _⟩, ⟨nI_0.symm, Nat.zero_le _⟩, ⟨nI_0.symm, Nat.zero_le _⟩⟩, fun _ _ => ok0, fun _ _ => ok0, fun _ _ => ⟨0, Nat.zero_le _, nI_0.symm⟩, fun j hj => absurd hj (Nat.not_lt_zero _), fun j hj => absurd hj (Nat.not_lt_zero _), fun j hj => absurd hj (Nat.not_lt_zero _), ?_, fun c _ _ => ⟨rfl, rfl, rfl, rfl, rfl⟩, fun t _ _ => ⟨rfl, rfl, rfl, rfl, rfl, rfl, rfl⟩⟩
  intro key rs g j k _ hj
  exact absurd hj (Nat.not_lt_zero _)
theorem RX_00 {A : Nat → Prop} {kc ks : Nat} {a b1 b2 b9 b17 b18 b3 b10 b4 b16 b11 b12 b13 b14 b15 b5 b7 b6 b8 : Nat} (H : HS h ((a, .inr (12, [.ref b1, .ref b2, .ref b9, .int 0])) :: (b9, .inl (E.1 0, 64, .inl (fun _ => 0))) :: (b2, .inr (4, [.ref b1, .ref b17, .ref b18])) :: (b18, LST E) :: (b17, LST E) :: WRL E b1 b3 b10 b4 b16 b11 b12 b13 b14 b15 b5 b7 b6 b8 [])) (hA : ∀ q, (q ∈ h.1 → q ∈ [a, b9, b2, b18, b17, b1, b6, b8, b5, b7, b15, b14, b13, b12, b4, b11, b16, b3, b10]) → A q) (h1 : 20000 ≤ kc) (h2 : 2000000 ≤ ks) : RX E A h a s00 0 kc ks := by
  have nd : [a, b9, b2, b18, b17, b1, b6, b8, b5, b7, b15, b14, b13, b12, b4, b11, b16, b3, b10].Nodup := H.2
  have ly : ∀ k j, lyv (fun _ => 0) (fun _ => 0) k j → k = 0 ∧ j ≤ 18 := by
    rintro k j (z | z | z | z | z | z | z)
    · exact z
    · exact absurd z.2 (Nat.not_lt_zero _)
    · exact absurd z.2 (Nat.not_lt_zero _)
    · exact absurd z.2 (Nat.not_lt_zero _)
    · exact absurd z.2 (Nat.not_lt_zero _)
    · exact absurd rfl z.2.2.2
    · exact absurd rfl z.2.2
  have al : ∀ {l d : Nat} {el : Nat → Nat}, xh_at h l (LST E) → d = E.2.1 2 → AL E h l d 0 0 el := fun x e => ⟨0, by rw [e, nI_0]; exact x, Nat.le_refl _, Or.inl ⟨rfl, e⟩⟩
  have z0 : ∀ {P : Nat → Prop}, ∀ j, j < 0 → P j := fun j hj => absurd hj (Nat.not_lt_zero _)
  refine ⟨y00 E [a, b9, b2, b18, b17, b1, b6, b8, b5, b7, b15, b14, b13, b12, b4, b11, b16, b3, b10], fun _ => 0, fun _ => 0, rfl, ⟨⟨fun q hq => hA q (fun z => absurd z hq), fun k j z => ?_, fun k j k' j' z z' e => ?_, z0, z0, z0, z0, z0, z0⟩, ⟨⟨nI_0.symm, Nat.zero_le _⟩, ⟨nI_0.symm, Nat.zero_le _⟩, ⟨nI_0.symm, Nat.zero_le _, Nat.zero_le _⟩, nI_0.symm, nI_0.symm, nI_0.symm, nI_0.symm, nI_0.symm, ⟨nI_0.symm, Nat.zero_le _⟩, ⟨Nat.zero_le _, Nat.zero_le _, Nat.zero_le _, Nat.zero_le _, Nat.zero_le _⟩, fun _ => Nat.zero_le _⟩, ?_, ?_, fun j hj => absurd hj (Nat.not_lt_zero _), fun j hj => absurd hj (Nat.not_lt_zero _), fun j hj => absurd hj (Nat.not_lt_zero _), fun j hj => absurd hj (Nat.not_lt_zero _), ⟨fun j hj => absurd hj (Nat.not_lt_zero _), fun j hj => absurd hj (Nat.not_lt_zero _), fun j hj => absurd hj (Nat.not_lt_zero _), fun j hj => absurd hj (Nat.not_lt_zero _), fun j hj => absurd hj (Nat.not_lt_zero _)⟩⟩, ?_⟩
  · obtain ⟨rfl, hj⟩ := ly k j z
    refine hA _ (fun _ => ?_)
    exact gd_mem (pi0_in j hj)
  · obtain ⟨rfl, hj⟩ := ly k j z
    obtain ⟨rfl, hj'⟩ := ly k' j' z'
    exact ⟨rfl, pi0_inj j hj j' hj' (gd_inj nd _ _ (pi0_in j hj) (pi0_in j' hj') e)⟩
  · refine ⟨H.at (i := 0) rfl, H.at (i := 5) rfl, H.at (i := 2) rfl, H.at (i := 17) rfl, ⟨_, H.at (i := 18) rfl, fun k hk => rfl⟩, ⟨_, _, _, H.at (i := 14) rfl⟩, ⟨_, H.at (i := 15) rfl⟩, ⟨_, _, _, H.at (i := 8) rfl⟩, ⟨_, _, _, H.at (i := 6) rfl⟩, ⟨_, H.at (i := 9) rfl⟩, ⟨_, H.at (i := 7) rfl⟩, ⟨_, H.at (i := 1) rfl, fun k hk => absurd hk (Nat.not_lt_zero _)⟩⟩
  · exact ⟨al (H.at (i := 13) rfl) rfl, al (H.at (i := 12) rfl) rfl, al (H.at (i := 11) rfl) rfl, al (H.at (i := 10) rfl) rfl, al (H.at (i := 16) rfl) rfl, al (H.at (i := 4) rfl) rfl, al (H.at (i := 3) rfl) rfl, fun t ht => absurd ht (Nat.not_lt_zero _), fun _ _ => rfl⟩
  · refine ⟨?_, ?_⟩
    · show 20 * (512 - 0) + 4 * (2048 - 0) + 2 * (60 - 0) ≤ kc
      omega
    · show 2000 * (512 - 0) + 20 * (2048 - 0) + 70 * (60 - 0) + (491520 - 4 * (0 + 0 + 0 + 0 + 0 + 0 + 0 + 0 + 0 + 0 + 0 + 0 + 0 + 0 + 0)) ≤ ks
      omega
theorem S_init_ok : S_init RX WF := by
  intro E K hK
  have H0 : HS xh_0 [] := ⟨fun p hp => absurd hp (by simp), List.nodup_nil⟩
  refine st_nO (c := 599999) (d := 7302246) H0 (by omega) (by omega) (fun a h1 kc1 ks1 H1 c1 d1 => ?_)
  refine st_cK 18 203 599981 7302043 (by omega) (by omega) (fun kc2 ks2 c2 d2 => s_init11 H1 (fun b1 b2 b9 b17 b18 b3 b10 b4 b16 b11 b12 b13 b14 b15 b5 b7 b6 b8 h3 H3 => ?_))
  refine st_nO (c := 599980) (d := 7301980) H3 (by omega) (by omega) (fun m h4 kc4 ks4 H4 c4 d4 => ?_)
  refine st_cK 49 77592 599931 7224388 (by omega) (by omega) (fun kc5 ks5 c5 d5 => s_init12 (m := m) (L := (a, .inr (12, [.ref b1, .ref b2, .ref b9, .int 0])) :: (b9, .inl (E.1 0, 64, .inl (fun _ => 0))) :: (b2, .inr (4, [.ref b1, .ref b17, .ref b18])) :: (b18, LST E) :: (b17, LST E) :: WRL E b1 b3 b10 b4 b16 b11 b12 b13 b14 b15 b5 b7 b6 b8 []) H4 (fun h6 al H6 hk => ?_))
  obtain ⟨RM, F, HL⟩ := H6.rep hk
  refine hK (fun q => ¬ FM m (adO al) q) h6 a m (adO al) s00 kc5 ks5 (RX_00 HL (fun q hq z => ?_) (by omega) (by omega)) RM (fun q z w => w z) WF_00
  obtain ⟨f1, f2⟩ := F q z
  exact f2 (hq f1)
end INIT
