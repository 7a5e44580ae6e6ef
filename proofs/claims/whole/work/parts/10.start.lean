theorem xs_nw_in : ∀ w ∈ xs_nw, w ∈ lw_tbl := by
  intro w hw
  simp only [xs_nw, List.mem_cons, List.not_mem_nil, or_false] at hw
  rcases hw with rfl | rfl | rfl | rfl | rfl | rfl | rfl | rfl | rfl | rfl | rfl | rfl | rfl | rfl | rfl | rfl | rfl | rfl | rfl | rfl | rfl | rfl | rfl | rfl | rfl
  · exact List.mem_append_right _ (List.mem_append_left _ (List.mem_of_getElem? (i := 33) (by rfl)))
  · exact List.mem_append_right _ (List.mem_append_left _ (List.mem_of_getElem? (i := 39) (by rfl)))
  · exact List.mem_append_right _ (List.mem_append_left _ (List.mem_of_getElem? (i := 55) (by rfl)))
  · exact List.mem_append_right _ (List.mem_append_left _ (List.mem_of_getElem? (i := 107) (by rfl)))
  · exact List.mem_append_right _ (List.mem_append_left _ (List.mem_of_getElem? (i := 230) (by rfl)))
  · exact List.mem_append_right _ (List.mem_append_right _ (List.mem_append_left _ (List.mem_of_getElem? (i := 187) (by rfl))))
  · exact List.mem_append_right _ (List.mem_append_right _ (List.mem_append_right _ (List.mem_append_left _ (List.mem_of_getElem? (i := 40) (by rfl)))))
  · exact List.mem_append_right _ (List.mem_append_right _ (List.mem_append_right _ (List.mem_append_left _ (List.mem_of_getElem? (i := 78) (by rfl)))))
  · exact List.mem_append_right _ (List.mem_append_right _ (List.mem_append_right _ (List.mem_append_left _ (List.mem_of_getElem? (i := 84) (by rfl)))))
  · exact List.mem_append_right _ (List.mem_append_right _ (List.mem_append_right _ (List.mem_append_left _ (List.mem_of_getElem? (i := 127) (by rfl)))))
  · exact List.mem_append_right _ (List.mem_append_right _ (List.mem_append_right _ (List.mem_append_left _ (List.mem_of_getElem? (i := 199) (by rfl)))))
  · exact List.mem_append_right _ (List.mem_append_right _ (List.mem_append_right _ (List.mem_append_right _ (List.mem_append_right _ (List.mem_append_right _ ((List.mem_of_getElem? (i := 167) (by rfl))))))))
  · exact List.mem_append_right _ (List.mem_append_right _ (List.mem_append_right _ (List.mem_append_right _ (List.mem_append_right _ (List.mem_append_right _ ((List.mem_of_getElem? (i := 168) (by rfl))))))))
  · exact List.mem_append_right _ (List.mem_append_right _ (List.mem_append_right _ (List.mem_append_right _ (List.mem_append_right _ (List.mem_append_right _ ((List.mem_of_getElem? (i := 169) (by rfl))))))))
  · exact List.mem_append_right _ (List.mem_append_right _ (List.mem_append_right _ (List.mem_append_right _ (List.mem_append_right _ (List.mem_append_right _ ((List.mem_of_getElem? (i := 170) (by rfl))))))))
  · exact List.mem_append_right _ (List.mem_append_right _ (List.mem_append_right _ (List.mem_append_right _ (List.mem_append_right _ (List.mem_append_right _ ((List.mem_of_getElem? (i := 171) (by rfl))))))))
  · exact List.mem_append_right _ (List.mem_append_right _ (List.mem_append_right _ (List.mem_append_right _ (List.mem_append_right _ (List.mem_append_right _ ((List.mem_of_getElem? (i := 172) (by rfl))))))))
  · exact List.mem_append_right _ (List.mem_append_right _ (List.mem_append_right _ (List.mem_append_right _ (List.mem_append_right _ (List.mem_append_right _ ((List.mem_of_getElem? (i := 173) (by rfl))))))))
  · exact List.mem_append_right _ (List.mem_append_right _ (List.mem_append_right _ (List.mem_append_right _ (List.mem_append_right _ (List.mem_append_right _ ((List.mem_of_getElem? (i := 174) (by rfl))))))))
  · exact List.mem_append_right _ (List.mem_append_right _ (List.mem_append_right _ (List.mem_append_right _ (List.mem_append_right _ (List.mem_append_right _ ((List.mem_of_getElem? (i := 175) (by rfl))))))))
  · exact List.mem_append_right _ (List.mem_append_right _ (List.mem_append_right _ (List.mem_append_right _ (List.mem_append_right _ (List.mem_append_right _ ((List.mem_of_getElem? (i := 176) (by rfl))))))))
  · exact List.mem_append_right _ (List.mem_append_right _ (List.mem_append_right _ (List.mem_append_right _ (List.mem_append_right _ (List.mem_append_right _ ((List.mem_of_getElem? (i := 177) (by rfl))))))))
  · exact List.mem_append_right _ (List.mem_append_right _ (List.mem_append_right _ (List.mem_append_right _ (List.mem_append_right _ (List.mem_append_right _ ((List.mem_of_getElem? (i := 178) (by rfl))))))))
  · exact List.mem_append_right _ (List.mem_append_right _ (List.mem_append_right _ (List.mem_append_right _ (List.mem_append_right _ (List.mem_append_right _ ((List.mem_of_getElem? (i := 179) (by rfl))))))))
  · exact List.mem_append_right _ (List.mem_append_right _ (List.mem_append_right _ (List.mem_append_right _ (List.mem_append_right _ (List.mem_append_right _ ((List.mem_of_getElem? (i := 180) (by rfl))))))))
/-! from the law's entry to its picture -/
theorem xs_prim {args : Array Value} {s : State} {ty : FieldType} (hp : refKind ty = false) (h : (Cond.arrayClass ty).before args s = true) : ∃ cA : ClassId, ArrOfT s cA ty ∧ va_RA s cA ty := by
  obtain ⟨cA, kA, comp, h1, h2, h3⟩ := Cond.arrayClass_spec h
  refine ⟨cA, fun n z => ⟨fun k h => (by cases h), kA, h2, comp, h3⟩, ?_⟩
  cases ty with
  | object C => cases hp
  | _ => exact h1
theorem xs_over {s : State} {C : String} (h : va_AO C s) : ∃ cA : ClassId, ArrOfT s cA (.object C) ∧ va_RA s cA (.object C) := by
  obtain ⟨comp, cA, kA, f1, -, f2, f3, f4⟩ := Cond.arrayOver_spec h
  exact ⟨cA, fun n z => ⟨fun k h => (by cases h), kA, f2, comp, f3⟩, kA, comp, f2, f3, f1, f4⟩
def xh_0 : Hp := ([], fun _ => .inr (0, []))
set_option maxRecDepth 100000 in
set_option maxHeartbeats 4000000 in
/-- the walk of the law, out of its picture -/
theorem whole_start_open (hpure : ∀ (E : Ev) (L : Nat) (xs : Nat → Int32), L ≤ 3584 → m_L_law E L xs xh_0 600000 7302250) {p : Program} {e : Env} {s : State} {m : MethodId} {below : List Frame} {meth : Method} {c : Code} (l : Launch) {b L : Nat} {xs : Nat → Int32} (hL : L ≤ 3584) (C0 : lw_At p s m meth c b L xs) : W p l e room_1 s m #[Value.ref b] below meth c s.heap [] 0 0 (lw_Z below #[Value.ref b] s) (entryFrame m ([Value.ref b] : List Value).toArray 4) := by
  obtain ⟨hx, hb, hr, hml, hown, hts, hX, hbl, hlocks, hgv⟩ := id C0
  have hgs := flat_of_before _ hgv
  have htx : ∀ w ∈ xw_tbl, w.before #[Value.ref b] s = true := fun w hw => hts w (List.mem_filter.mp hw).1
  have hnA : ∀ a : Nat, a < s.heap.size → ¬ (fun q : Nat => s.heap.size ≤ q) a := fun a h => Nat.not_le.mpr h
  obtain ⟨c0, iS0, hKn0⟩ := u_known (C := RJx4a65c) (T := TJx4a65c) (N := 3) (n := 3) htx inJx4a65c (hts (.instantiable "java/util/ArrayList" 3) (List.mem_append_right _ (List.mem_append_left _ (List.mem_of_getElem? (i := 60) (by rfl)))))
  obtain ⟨c1, iS1, hKn1⟩ := u_known (C := RX0) (T := TX0) (N := 2) (n := 2) htx inX0 (hts (.instantiable "CardPayments$Account" 2) (List.mem_append_right _ (List.mem_append_right _ (List.mem_append_left _ (List.mem_of_getElem? (i := 160) (by rfl))))))
  obtain ⟨c2, iS2, hKn2⟩ := u_known (C := RX1) (T := TX1) (N := 12) (n := 12) htx inX1 (hts (.instantiable "CardPayments$Card" 12) (List.mem_append_right _ (List.mem_append_left _ (List.mem_of_getElem? (i := 223) (by rfl)))))
  obtain ⟨c3, iS3, hKn3⟩ := u_known (C := RX2) (T := TX2) (N := 4) (n := 4) htx inX2 (hts (.instantiable "CardPayments$Content" 4) (List.mem_append_right _ (List.mem_append_left _ (List.mem_of_getElem? (i := 106) (by rfl)))))
  obtain ⟨c4, iS4, hKn4⟩ := u_known (C := RX3) (T := TX3) (N := 3) (n := 3) htx inX3 (hts (.instantiable "CardPayments$Host" 3) (List.mem_append_right _ (List.mem_append_left _ (List.mem_of_getElem? (i := 174) (by rfl)))))
  obtain ⟨c5, iS5, hKn5⟩ := u_known (C := RX4) (T := TX4) (N := 6) (n := 6) htx inX4 (hts (.instantiable "CardPayments$Message" 6) (List.mem_append_right _ (List.mem_append_right _ (List.mem_append_right _ (List.mem_append_left _ (List.mem_of_getElem? (i := 39) (by rfl)))))))
  obtain ⟨c6, iS6, hKn6⟩ := u_known (C := RX5) (T := TX5) (N := 8) (n := 8) htx inX5 (hts (.instantiable "CardPayments$Payment" 8) (List.mem_append_right _ (List.mem_append_left _ (List.mem_of_getElem? (i := 229) (by rfl)))))
  obtain ⟨c7, iS7, hKn7⟩ := u_known (C := RX6) (T := TX6) (N := 3) (n := 3) htx inX6 (hts (.instantiable "CardPayments$Seal" 3) (List.mem_append_right _ (List.mem_append_right _ (List.mem_append_right _ (List.mem_append_left _ (List.mem_of_getElem? (i := 190) (by rfl)))))))
  obtain ⟨c8, iS8, hKn8⟩ := u_known (C := RX7) (T := TX7) (N := 5) (n := 5) htx inX7 (hts (.instantiable "CardPayments$Seals" 5) (List.mem_append_right _ (List.mem_append_left _ (List.mem_of_getElem? (i := 54) (by rfl)))))
  obtain ⟨c9, iS9, hKn9⟩ := u_known (C := RX8) (T := TX8) (N := 14) (n := 14) htx inX8 (hts (.instantiable "CardPayments$Terminal" 14) (List.mem_append_right _ (List.mem_append_right _ (List.mem_append_left _ (List.mem_of_getElem? (i := 179) (by rfl))))))
  obtain ⟨c10, iS10, hKn10⟩ := u_known (C := RX9) (T := TX9) (N := 2) (n := 2) htx inX9 (hts (.instantiable "CardPayments$Wires" 2) (List.mem_append_right _ (List.mem_append_left _ (List.mem_of_getElem? (i := 38) (by rfl)))))
  obtain ⟨c11, iS11, hKn11⟩ := u_known (C := RX10) (T := TX10) (N := 8) (n := 8) htx inX10 (hts (.instantiable "CardPayments$World" 8) (List.mem_append_right _ (List.mem_append_left _ (List.mem_of_getElem? (i := 32) (by rfl)))))
  obtain ⟨c12, iS12, hKn12⟩ := u_known (C := RX11) (T := TX11) (N := 4) (n := 4) htx inX11 (hts (.instantiable "CardPayments" 4) (List.mem_append_right _ (List.mem_append_left _ (List.mem_of_getElem? (i := 24) (by rfl)))))
  obtain ⟨c13, iS13, hKn13⟩ := u_known (C := RX12) (T := TX12) (N := 63) (n := 63) htx inX12 (hts (.instantiable "CardPaymentsModel" 63) (List.mem_append_right _ (List.mem_append_right _ (List.mem_append_right _ (List.mem_append_right _ (List.mem_append_left _ (List.mem_of_getElem? (i := 216) (by rfl))))))))
  obtain ⟨dC, dI, hKc⟩ : ∃ (dC : Nat → ClassId) (dI : Nat → Nat → Nat), ∀ (k : Nat) (q : vw_C), vwCl[k]? = some q → u_Kn s q.1 q.2.1 q.2.2 (dC k) (dI k) := by
    refine ⟨fun k => if k = 0 then c0 else if k = 1 then c1 else if k = 2 then c2 else if k = 3 then c3 else if k = 4 then c4 else if k = 5 then c5 else if k = 6 then c6 else if k = 7 then c7 else if k = 8 then c8 else if k = 9 then c9 else if k = 10 then c10 else if k = 11 then c11 else if k = 12 then c12 else c13, fun k => if k = 0 then iS0 else if k = 1 then iS1 else if k = 2 then iS2 else if k = 3 then iS3 else if k = 4 then iS4 else if k = 5 then iS5 else if k = 6 then iS6 else if k = 7 then iS7 else if k = 8 then iS8 else if k = 9 then iS9 else if k = 10 then iS10 else if k = 11 then iS11 else if k = 12 then iS12 else iS13, ?_⟩
    intro k q hq
    match k, hq with
    | 0, hq => cases hq; exact hKn0
    | 1, hq => cases hq; exact hKn1
    | 2, hq => cases hq; exact hKn2
    | 3, hq => cases hq; exact hKn3
    | 4, hq => cases hq; exact hKn4
    | 5, hq => cases hq; exact hKn5
    | 6, hq => cases hq; exact hKn6
    | 7, hq => cases hq; exact hKn7
    | 8, hq => cases hq; exact hKn8
    | 9, hq => cases hq; exact hKn9
    | 10, hq => cases hq; exact hKn10
    | 11, hq => cases hq; exact hKn11
    | 12, hq => cases hq; exact hKn12
    | 13, hq => cases hq; exact hKn13
    | k + 14, hq => simp [vwCl] at hq
  have o3 : va_AO "CardPayments$Message" s := va_AO.of (hts (.arrayOver (.object "CardPayments$Message")) (List.mem_append_right _ (List.mem_append_left _ (List.mem_of_getElem? (i := 44) (by rfl)))))
  have o4 : va_AO "java/lang/Object" s := va_AO.of (hts (.arrayOver (.object "java/lang/Object")) (List.mem_append_right _ (List.mem_append_right _ (List.mem_append_left _ (List.mem_of_getElem? (i := 149) (by rfl))))))
  obtain ⟨t0, ht0⟩ := xs_prim (ty := .int) rfl (hts (.arrayClass .int) (List.mem_append_right _ (List.mem_append_left _ (List.mem_of_getElem? (i := 206) (by rfl)))))
  obtain ⟨t1, ht1⟩ := xs_prim (ty := .long) rfl (hts (.arrayClass .long) (List.mem_append_right _ (List.mem_append_left _ (List.mem_of_getElem? (i := 102) (by rfl)))))
  obtain ⟨t2, ht2⟩ := xs_prim (ty := .boolean) rfl (hts (.arrayClass .boolean) (List.mem_append_right _ (List.mem_append_right _ (List.mem_append_right _ (List.mem_append_right _ (List.mem_append_right _ (List.mem_append_left _ (List.mem_of_getElem? (i := 172) (by rfl)))))))))
  obtain ⟨t3, ht3⟩ := xs_over o3
  obtain ⟨t4, ht4⟩ := xs_over o4
  obtain ⟨sF, hF1, hF2⟩ := va_Tof (tm := .static "CardPayments" "FIELDS" "[I") (ty := .int) (N := 12) (f := fun j => .int (xs_F.getD j 0)) (A := fun q : Nat => s.heap.size ≤ q) (by decide) (hgs (.arrayOf (.static "CardPayments" "FIELDS" "[I") .int) (by decide +kernel)) (va_eqt (hgs (.eq (.length (.static "CardPayments" "FIELDS" "[I")) (.int 12)) (by decide +kernel))) (fun j hj => by
    match j, hj with
    | 0, _ => exact va_eqt (hgs (.eq (.elem (.static "CardPayments" "FIELDS" "[I") (.int 0)) (.int 0)) (by decide +kernel))
    | 1, _ => exact va_eqt (hgs (.eq (.elem (.static "CardPayments" "FIELDS" "[I") (.int 1)) (.int 16)) (by decide +kernel))
    | 2, _ => exact va_eqt (hgs (.eq (.elem (.static "CardPayments" "FIELDS" "[I") (.int 2)) (.int 262)) (by decide +kernel))
    | 3, _ => exact va_eqt (hgs (.eq (.elem (.static "CardPayments" "FIELDS" "[I") (.int 3)) (.int 512)) (by decide +kernel))
    | 4, _ => exact va_eqt (hgs (.eq (.elem (.static "CardPayments" "FIELDS" "[I") (.int 4)) (.int 64)) (by decide +kernel))
    | 5, _ => exact va_eqt (hgs (.eq (.elem (.static "CardPayments" "FIELDS" "[I") (.int 5)) (.int 184)) (by decide +kernel))
    | 6, _ => exact va_eqt (hgs (.eq (.elem (.static "CardPayments" "FIELDS" "[I") (.int 6)) (.int 452)) (by decide +kernel))
    | 7, _ => exact va_eqt (hgs (.eq (.elem (.static "CardPayments" "FIELDS" "[I") (.int 7)) (.int 2430)) (by decide +kernel))
    | 8, _ => exact va_eqt (hgs (.eq (.elem (.static "CardPayments" "FIELDS" "[I") (.int 8)) (.int 3334)) (by decide +kernel))
    | 9, _ => exact va_eqt (hgs (.eq (.elem (.static "CardPayments" "FIELDS" "[I") (.int 9)) (.int 1280)) (by decide +kernel))
    | 10, _ => exact va_eqt (hgs (.eq (.elem (.static "CardPayments" "FIELDS" "[I") (.int 10)) (.int 384)) (by decide +kernel))
    | 11, _ => exact va_eqt (hgs (.eq (.elem (.static "CardPayments" "FIELDS" "[I") (.int 11)) (.int 2430)) (by decide +kernel))
    | j + 12, hj => exact absurd hj (by omega)) hnA
  obtain ⟨sL, hL1, hL2⟩ := va_Tof (tm := .static "CardPayments" "LENGTHS" "[I") (ty := .int) (N := 12) (f := fun j => .int (xs_L.getD j 0)) (A := fun q : Nat => s.heap.size ≤ q) (by decide) (hgs (.arrayOf (.static "CardPayments" "LENGTHS" "[I") .int) (by decide +kernel)) (va_eqt (hgs (.eq (.length (.static "CardPayments" "LENGTHS" "[I")) (.int 12)) (by decide +kernel))) (fun j hj => by
    match j, hj with
    | 0, _ => exact va_eqt (hgs (.eq (.elem (.static "CardPayments" "LENGTHS" "[I") (.int 0)) (.int 0)) (by decide +kernel))
    | 1, _ => exact va_eqt (hgs (.eq (.elem (.static "CardPayments" "LENGTHS" "[I") (.int 1)) (.int 1)) (by decide +kernel))
    | 2, _ => exact va_eqt (hgs (.eq (.elem (.static "CardPayments" "LENGTHS" "[I") (.int 2)) (.int 2)) (by decide +kernel))
    | 3, _ => exact va_eqt (hgs (.eq (.elem (.static "CardPayments" "LENGTHS" "[I") (.int 3)) (.int 5)) (by decide +kernel))
    | 4, _ => exact va_eqt (hgs (.eq (.elem (.static "CardPayments" "LENGTHS" "[I") (.int 4)) (.int 4)) (by decide +kernel))
    | 5, _ => exact va_eqt (hgs (.eq (.elem (.static "CardPayments" "LENGTHS" "[I") (.int 5)) (.int 1)) (by decide +kernel))
    | 6, _ => exact va_eqt (hgs (.eq (.elem (.static "CardPayments" "LENGTHS" "[I") (.int 6)) (.int 1)) (by decide +kernel))
    | 7, _ => exact va_eqt (hgs (.eq (.elem (.static "CardPayments" "LENGTHS" "[I") (.int 7)) (.int 1)) (by decide +kernel))
    | 8, _ => exact va_eqt (hgs (.eq (.elem (.static "CardPayments" "LENGTHS" "[I") (.int 8)) (.int 4)) (by decide +kernel))
    | 9, _ => exact va_eqt (hgs (.eq (.elem (.static "CardPayments" "LENGTHS" "[I") (.int 9)) (.int 2)) (by decide +kernel))
    | 10, _ => exact va_eqt (hgs (.eq (.elem (.static "CardPayments" "LENGTHS" "[I") (.int 10)) (.int 1)) (by decide +kernel))
    | 11, _ => exact va_eqt (hgs (.eq (.elem (.static "CardPayments" "LENGTHS" "[I") (.int 11)) (.int 4)) (by decide +kernel))
    | j + 12, hj => exact absurd hj (by omega)) hnA
  obtain ⟨sD, hD1, hD2⟩ := va_Tof (tm := .static "java/util/ArrayList" "DEFAULTCAPACITY_EMPTY_ELEMENTDATA" "[Ljava/lang/Object;") (ty := .object "java/lang/Object") (N := 0) (f := fun _ => .null) (A := fun q : Nat => s.heap.size ≤ q) (by decide) (hgs (.arrayOf (.static "java/util/ArrayList" "DEFAULTCAPACITY_EMPTY_ELEMENTDATA" "[Ljava/lang/Object;") (.object "java/lang/Object")) (by decide +kernel)) (va_eqt (hgs (.eq (.length (.static "java/util/ArrayList" "DEFAULTCAPACITY_EMPTY_ELEMENTDATA" "[Ljava/lang/Object;")) (.int 0)) (by decide +kernel))) (fun j hj => absurd hj (by omega)) hnA
  have zF : va_Z "CardPayments" "FIELDS" "[I" (.ref sF) (fun q : Nat => s.heap.size ≤ q) s s.heap := va_Zref (hts (.laysStatic "CardPayments" "FIELDS" "[I") (List.mem_append_right _ (List.mem_append_right _ (List.mem_append_right _ (List.mem_append_left _ (List.mem_of_getElem? (i := 79) (by rfl))))))) (hts (.initialized "CardPayments") (List.mem_append_right _ (List.mem_append_left _ (List.mem_of_getElem? (i := 1) (by rfl))))) hF1 hnA
  have zL : va_Z "CardPayments" "LENGTHS" "[I" (.ref sL) (fun q : Nat => s.heap.size ≤ q) s s.heap := va_Zref (hts (.laysStatic "CardPayments" "LENGTHS" "[I") (List.mem_append_right _ (List.mem_append_right _ (List.mem_append_right _ (List.mem_append_left _ (List.mem_of_getElem? (i := 85) (by rfl))))))) (hts (.initialized "CardPayments") (List.mem_append_right _ (List.mem_append_left _ (List.mem_of_getElem? (i := 1) (by rfl))))) hL1 hnA
  have zD : va_Z "java/util/ArrayList" "DEFAULTCAPACITY_EMPTY_ELEMENTDATA" "[Ljava/lang/Object;" (.ref sD) (fun q : Nat => s.heap.size ≤ q) s s.heap := va_Zref (hts (.laysStatic "java/util/ArrayList" "DEFAULTCAPACITY_EMPTY_ELEMENTDATA" "[Ljava/lang/Object;") (List.mem_append_right _ (List.mem_append_left _ (List.mem_of_getElem? (i := 72) (by rfl))))) (hts (.initialized "java/util/ArrayList") (List.mem_append_right _ (List.mem_append_left _ (List.mem_of_getElem? (i := 7) (by rfl))))) hD1 hnA
  obtain ⟨mi, hmi⟩ := va_Mi.of (hgs (.isRef (.mirror "[Ljava/lang/Object;")) (by decide +kernel))
  obtain ⟨E, hE0, hE1, hE2⟩ : ∃ E : Ev, (E.1 0 = t0 ∧ E.1 1 = t1 ∧ E.1 2 = t2 ∧ E.1 3 = t3 ∧ E.1 4 = t4) ∧ (E.2.1 0 = sF ∧ E.2.1 1 = sL ∧ E.2.1 2 = sD) ∧ E.2.2 0 = mi :=
    ⟨(fun k => if k = 0 then t0 else if k = 1 then t1 else if k = 2 then t2 else if k = 3 then t3 else t4, fun k => if k = 0 then sF else if k = 1 then sL else sD, fun _ => mi), ⟨rfl, rfl, rfl, rfl, rfl⟩, ⟨rfl, rfl, rfl⟩, rfl⟩
  obtain ⟨rfl, rfl, rfl, rfl, rfl⟩ := hE0
  obtain ⟨rfl, rfl, rfl⟩ := hE1
  subst hE2
  have hK : va_K (dC, dI) vwCl (xe_tyl E) s := by
    refine ⟨hKc, fun k q hq => ?_⟩
    have hq' : [(E.1 0, FieldType.int), (E.1 1, FieldType.long), (E.1 2, FieldType.boolean), (E.1 3, FieldType.object "CardPayments$Message"), (E.1 4, FieldType.object "java/lang/Object")][k]? = some q := hq
    match k, hq' with
    | 0, h => cases h; exact ht0
    | 1, h => cases h; exact ht1
    | 2, h => cases h; exact ht2
    | 3, h => cases h; exact ht3
    | 4, h => cases h; exact ht4
    | k + 5, h => simp at h
  have hSt : xe_S E (fun q : Nat => s.heap.size ≤ q) s s.heap := by
    refine ⟨fun i q hq => ?_, fun i q hq => ?_, fun i q hq => ?_, fun q hq => ?_, fun w hw => ?_⟩
    · match i, hq with
      | 0, h => cases h; exact zF
      | 1, h => cases h; exact zL
      | 2, h => cases h; exact zD
      | k + 3, h => simp [xs_st] at h
    · match i, hq with
      | 0, h => cases h; exact hF2
      | 1, h => cases h; exact hL2
      | 2, h => cases h; exact hD2
      | k + 3, h => simp [xs_ro] at h
    · match i, hq with
      | 0, h => cases h; exact hmi
      | k + 1, h => simp [xs_mi] at h
    · rcases List.mem_cons.mp hq with rfl | hq
      · exact o3
      rcases List.mem_cons.mp hq with rfl | hq
      · exact o4
      exact absurd hq List.not_mem_nil
    · exact va_Nw.of (xs_nw_on w hw) (hts w (xs_nw_in w hw))
  have hAt : xl_At (fun q : Nat => s.heap.size ≤ q) s b L xs := ⟨hX, hbl, Nat.not_le.mpr hbl, fun _ h => h⟩
  have C : XC p room_1 s m #[Value.ref b] c (dC, dI) E (fun q : Nat => s.heap.size ≤ q) 4 RL cL_law 600000 7302250 := ⟨⟨hx, hb⟩, ⟨hml, hown⟩, htx, hK, ⟨fun _ h => h, hSt⟩, rfl, rfl⟩
  have hl := lv_entry ([.ref b]) (n := 4) (Nat.le_of_ble_eq_true rfl)
  rw [lg_entry_eq]
  generalize (lg_sl ([.ref b]) ++ List.replicate (4 - (lg_sl ([.ref b])).length) Slot.unset).toArray = ls at hl ⊢
  have hl : lv_has ls 4 [(0, .ref b)] := hl
  exact k_L_law C hr hlocks hAt ⟨rfl, rfl⟩ xh_0 600000 7302250 (hpure E L xs hL) s.heap [] 0 0 ls (fun k q h => by simp [xh_0, va_pl] at h) ⟨fun i j p q h => by simp [xh_0, va_pl] at h, fun k q h => by simp [xh_0, va_pl] at h⟩ va_S.rf rfl rfl hl
