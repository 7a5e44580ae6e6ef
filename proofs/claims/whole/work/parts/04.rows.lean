/-! A picture of the whole heap of a system, and the machine over it. Hp: which addresses, and what lies at each. XW: the machine comes to Q from every heap that holds the picture h, with kc cells and ks slots still to spend. -/
abbrev Hp : Type := List Nat × (Nat → va_E)
/-- what is fixed for all: the classes of the arrays, the addresses of constant statics, those of class objects -/
abbrev Ev : Type := (Nat → ClassId) × (Nat → Nat) × (Nat → Nat)
def xh_set (h : Hp) (a : Nat) (e : va_E) : Hp := (h.1, va_up h.2 a e)
def xh_new (h : Hp) (a : Nat) (e : va_E) : Hp := (h.1 ++ [a], va_up h.2 a e)
/-- an object or array of the picture -/
def xh_at (h : Hp) (a : Nat) (e : va_E) : Prop := a ∈ h.1 ∧ h.2 a = e
def xv_put1 (lv : List (Nat × Value)) (i : Nat) (v : Value) : List (Nat × Value) := (i, v) :: lv.filter (fun q => !(q.1 == i) && !(q.1 + 1 == i && q.2.category == 2))
def xv_put2 (lv : List (Nat × Value)) (i : Nat) (v : Value) : List (Nat × Value) := (i, v) :: lv.filter (fun q => !(q.1 == i) && (!(q.1 == i + 1) && !(q.1 + 1 == i && q.2.category == 2)))
theorem xv_ci (x : Int32) : (Value.int x).category = 1 := rfl
theorem xv_cl (x : Int64) : (Value.long x).category = 2 := rfl
theorem xv_cr (x : Nat) : (Value.ref x).category = 1 := rfl
theorem xv_cn : Value.null.category = 1 := rfl
theorem xv_cat (r : Option Nat) : (va_rf r).category = 1 := by cases r <;> rfl
def xe_tyl (E : Ev) : List (ClassId × FieldType) := (List.range xs_ty.length).map (fun i => (E.1 i, xs_ty.getD i .int))
theorem xe_ty_at {E : Ev} (i : Nat) {ty : FieldType} (h : xs_ty[i]? = some ty) : (xe_tyl E)[i]? = some (E.1 i, ty) := by
  have hl : i < xs_ty.length := (List.getElem?_eq_some_iff.mp h).1
  simp only [xe_tyl, List.getElem?_map, List.getElem?_range hl, Option.map_some, List.getD_eq_getElem?_getD, h, Option.getD_some]
/-- the constant statics, the class objects, the tables of arrays over classes -/
def xe_S (E : Ev) (A : Nat → Prop) (U : State) (H : Heap) : Prop :=
  (∀ (i : Nat) (q : String × String × String), xs_st[i]? = some q → va_Z q.1 q.2.1 q.2.2 (.ref (E.2.1 i)) A U H) ∧
  (∀ (i : Nat) (q : Nat × FieldType × Nat × (Nat → Value)), xs_ro[i]? = some q → va_T q.2.1 (E.2.1 q.1) q.2.2.1 q.2.2.2 A U H) ∧
  (∀ (i : Nat) (q : String), xs_mi[i]? = some q → va_Mi q (E.2.2 i) U) ∧
  (∀ q ∈ xs_ao, va_AO q U) ∧ (∀ w ∈ xs_nw, va_Nw w U)
theorem xe_S.narrow {E : Ev} {A B : Nat → Prop} {U : State} {H : Heap} (h : xe_S E A U H) (hAB : ∀ q, B q → A q) : xe_S E B U H :=
  ⟨fun i q hq => (h.1 i q hq).narrow hAB, fun i q hq => (h.2.1 i q hq).narrow hAB, h.2.2⟩
theorem xe_S.kept {E : Ev} {A : Nat → Prop} {U : State} {H H1 : Heap} (h : xe_S E A U H) (hq : ∀ a : Nat, a < H.size → ¬ A a → H1[a]? = H[a]?) : xe_S E A U H1 :=
  ⟨fun i q hi => (h.1 i q hi).kept hq, fun i q hi => (h.2.1 i q hi).kept hq, h.2.2⟩
theorem xe_S.warm {E : Ev} {A : Nat → Prop} {u U : State} {H : Heap} (hW : u.WarmedH U.vm) (hn : ∀ w ∈ xs_nw, va_Nw w u → va_Nw w U) (h : xe_S E A u H) : xe_S E A U H :=
  ⟨fun i q hi => (h.1 i q hi).moved hW.alike, fun i q hi => (h.2.1 i q hi).moved hW.alike, fun i q hi => (h.2.2.1 i q hi).moved hW.alike, fun q hq => (h.2.2.2.1 q hq).moved hW.alike, fun w hw => hn w hw (h.2.2.2.2 w hw)⟩
theorem xe_S.same {E : Ev} {A : Nat → Prop} {u U : State} {H : Heap} (hvm : u.vm = U.vm) (hn : ∀ w ∈ xs_nw, w.onTables = true) (h : xe_S E A u H) : xe_S E A U H :=
  have ha : u.vm.Alike U.vm := by rw [hvm]; exact Vm.Alike.refl _
  ⟨fun i q hi => (h.1 i q hi).moved ha, fun i q hi => (h.2.1 i q hi).moved ha, fun i q hi => (h.2.2.1 i q hi).moved ha, fun q hq => (h.2.2.2.1 q hq).moved ha, fun w hw => va_Nw.same (hn w hw) hvm (h.2.2.2.2 w hw)⟩
def XC (p : Program) (R : Room) (s : State) (m : MethodId) (args : Array Value) (c : Code) (D : va_G) (E : Ev) (A : Nat → Prop) (nL : Nat) (own : String) (cc : ByteArray) (KC KS : Nat) : Prop :=
  (p.tables.exec = Jvm.exec ∧ c.code = cc) ∧ (c.maxLocals = nL ∧ s.vm.findClass own = some m.cls) ∧ (∀ w ∈ xw_tbl, w.before args s = true) ∧ va_K D vwCl (xe_tyl E) s ∧ ((∀ q, s.heap.size ≤ q → A q) ∧ xe_S E A s s.heap) ∧ (R.cells = KC ∧ R.slots = KS)
def XW (p : Program) (l : Launch) (e : Env) (R : Room) (s : State) (m : MethodId) (args : Array Value) (below : List Frame) (meth : Method) (c : Code) (Q : State → Prop) (D : va_G) (A : Nat → Prop) (KC KS nL : Nat) (h : Hp) (kc ks : Nat) (lv : List (Nat × Value)) (pc : Nat) (st : List Value) : Prop :=
  ∀ (H : Heap) (locs : List Loc) (cells slots : Nat) (ls : Array Slot), va_P D vwCl (va_pl h.1 h.2) H → va_D A (va_pl h.1 h.2) → va_S A s.heap H locs → cells + kc = KC → slots + ks = KS → lv_has ls nL lv → W p l e R s m args below meth c H locs cells slots Q (F0 m pc ls st)
/-- a method's start and its end, in pictures -/
def XPre (D : va_G) (E : Ev) (h : Hp) (sz : Nat) (U : State) : Prop := U.heap.size = sz ∧ va_P D vwCl (va_pl h.1 h.2) U.heap ∧ va_K D vwCl (xe_tyl E) U ∧ va_D (fun _ => True) (va_pl h.1 h.2) ∧ xe_S E (va_A (va_pl h.1 h.2) sz) U U.heap
def XPost (D : va_G) (A : Nat → Prop) (h : Hp) (t : State) : Prop := va_P D vwCl (va_pl h.1 h.2) t.heap ∧ va_D A (va_pl h.1 h.2)
abbrev XA (h : Hp) (sz : Nat) : Nat → Prop := va_A (va_pl h.1 h.2) sz
theorem xh_get {h : Hp} {a : Nat} {e : va_E} (ha : xh_at h a e) : ∃ k : Nat, (va_pl h.1 h.2)[k]? = some (a, e) := by
  obtain ⟨k, hk⟩ := va_pl_get (X := []) (f := h.2) ha.1
  exact ⟨k, by rw [← ha.2]; exact hk⟩
theorem xh_put {h : Hp} {A : Nat → Prop} {a k : Nat} {e e' : va_E} (hD : va_D A (va_pl h.1 h.2)) (ha : xh_at h a e) (hk : (va_pl h.1 h.2)[k]? = some (a, e)) : (va_pl h.1 h.2).set k (a, e') = va_pl (xh_set h a e').1 (xh_set h a e').2 :=
  va_pl_set (X := []) hD ha.1 (by rw [ha.2]; exact hk)
theorem xh_push {h : Hp} {D : va_G} {A : Nat → Prop} {a : Nat} {e : va_E} {H1 : Heap} (hD : va_D A (va_pl h.1 h.2 ++ [(a, e)])) : a ∉ h.1 ∧ va_pl h.1 h.2 ++ [(a, e)] = va_pl (xh_new h a e).1 (xh_new h a e).2 := by
  have hn : a ∉ h.1 := by
    intro hm
    obtain ⟨k, hk⟩ := va_pl_get (X := []) (f := h.2) hm
    have hl : k < (va_pl h.1 h.2).length := (List.getElem?_eq_some_iff.mp hk).1
    have h1 : (va_pl h.1 h.2 ++ [(a, e)])[k]? = some (a, h.2 a) := by
      rw [List.getElem?_append_left hl]; exact hk
    have h2 : (va_pl h.1 h.2 ++ [(a, e)])[(va_pl h.1 h.2).length]? = some (a, e) := by
      rw [List.getElem?_append_right (Nat.le_refl _), Nat.sub_self]; rfl
    have := hD.1 _ _ _ _ h1 h2 rfl
    omega
  exact ⟨hn, va_pl_push hn⟩

section XR
variable {p : Program} {l : Launch} {e : Env} {R : Room} {s : State} {m : MethodId} {args : Array Value} {below : List Frame} {meth : Method} {c : Code} {Q : State → Prop} {D : va_G} {E : Ev} {A : Nat → Prop} {KC KS nL : Nat} {own : String} {cc : ByteArray} {h : Hp} {kc ks : Nat} {lv : List (Nat × Value)} {pc : Nat} {st : List Value}
theorem xr_iconst (C : XC p R s m args c D E A nL own cc KC KS) {n : Int} {v : Int32} (d : decode cc pc = .ok (.iconst n, 1)) (hv : Int32.ofInt n = v) (k : XW p l e R s m args below meth c Q D A KC KS nL h kc ks lv (pc + 1) (.int v :: st)) : XW p l e R s m args below meth c Q D A KC KS nL h kc ks lv pc (st) := fun H locs cells slots ls hP hD hS hc hs hl => lv_iconst C.1.1 C.1.2 d hv (k H locs cells slots ls hP hD hS hc hs hl)
theorem xr_bipush (C : XC p R s m args c D E A nL own cc KC KS) {n : Int} {v : Int32} (d : decode cc pc = .ok (.bipush n, 2)) (hv : (Int8.ofInt n).toInt32 = v) (k : XW p l e R s m args below meth c Q D A KC KS nL h kc ks lv (pc + 2) (.int v :: st)) : XW p l e R s m args below meth c Q D A KC KS nL h kc ks lv pc (st) := fun H locs cells slots ls hP hD hS hc hs hl => lv_bipush C.1.1 C.1.2 d hv (k H locs cells slots ls hP hD hS hc hs hl)
theorem xr_sipush (C : XC p R s m args c D E A nL own cc KC KS) {n : Int} {v : Int32} (d : decode cc pc = .ok (.sipush n, 3)) (hv : (Int16.ofInt n).toInt32 = v) (k : XW p l e R s m args below meth c Q D A KC KS nL h kc ks lv (pc + 3) (.int v :: st)) : XW p l e R s m args below meth c Q D A KC KS nL h kc ks lv pc (st) := fun H locs cells slots ls hP hD hS hc hs hl => lv_sipush C.1.1 C.1.2 d hv (k H locs cells slots ls hP hD hS hc hs hl)
theorem xr_lconst (C : XC p R s m args c D E A nL own cc KC KS) {n : Fin 2} {v : Int64} (d : decode cc pc = .ok (.lconst n, 1)) (hv : Int64.ofNat (n : Nat) = v) (k : XW p l e R s m args below meth c Q D A KC KS nL h kc ks lv (pc + 1) (.long v :: st)) : XW p l e R s m args below meth c Q D A KC KS nL h kc ks lv pc (st) := fun H locs cells slots ls hP hD hS hc hs hl => lv_lconst C.1.1 C.1.2 d hv (k H locs cells slots ls hP hD hS hc hs hl)
theorem xr_null (C : XC p R s m args c D E A nL own cc KC KS)  (d : decode cc pc = .ok (.aconst_null, 1))  (k : XW p l e R s m args below meth c Q D A KC KS nL h kc ks lv (pc + 1) (.null :: st)) : XW p l e R s m args below meth c Q D A KC KS nL h kc ks lv pc (st) := fun H locs cells slots ls hP hD hS hc hs hl => lv_null C.1.1 C.1.2 d  (k H locs cells slots ls hP hD hS hc hs hl)
theorem xr_ldc (C : XC p R s m args c D E A nL own cc KC KS) {idx : Nat} {v : Int32} (d : decode cc pc = .ok (.ldc idx, 2)) (hw : Cond.constant own idx v ∈ xw_tbl) (k : XW p l e R s m args below meth c Q D A KC KS nL h kc ks lv (pc + 2) (.int v :: st)) : XW p l e R s m args below meth c Q D A KC KS nL h kc ks lv pc st := fun H locs cells slots ls hP hD hS hc hs hl => lv_ldc C.1.1 C.1.2 C.2.1.2 (C.2.2.1 _ hw) d (k H locs cells slots ls hP hD hS hc hs hl)
theorem xr_ldcw (C : XC p R s m args c D E A nL own cc KC KS) {idx : Nat} {v : Int32} (d : decode cc pc = .ok (.ldc_w idx, 3)) (hw : Cond.constant own idx v ∈ xw_tbl) (k : XW p l e R s m args below meth c Q D A KC KS nL h kc ks lv (pc + 3) (.int v :: st)) : XW p l e R s m args below meth c Q D A KC KS nL h kc ks lv pc st := fun H locs cells slots ls hP hD hS hc hs hl => lv_ldcw C.1.1 C.1.2 C.2.1.2 (C.2.2.1 _ hw) d (k H locs cells slots ls hP hD hS hc hs hl)
theorem xr_ldc2 (C : XC p R s m args c D E A nL own cc KC KS) {idx : Nat} {v : Int64} (d : decode cc pc = .ok (.ldc2_w idx, 3)) (hw : Cond.constantLong own idx v ∈ xw_tbl) (k : XW p l e R s m args below meth c Q D A KC KS nL h kc ks lv (pc + 3) (.long v :: st)) : XW p l e R s m args below meth c Q D A KC KS nL h kc ks lv pc st := fun H locs cells slots ls hP hD hS hc hs hl => lv_ldc2 C.1.1 C.1.2 C.2.1.2 (C.2.2.1 _ hw) d (k H locs cells slots ls hP hD hS hc hs hl)
theorem xr_iload_n (C : XC p R s m args c D E A nL own cc KC KS) {k0 : Fin 4} {x : Int32} (d : decode cc pc = .ok (.iload_n k0, 1)) (j : Nat) (hj : lv[j]? = some ((k0 : Nat), .int x)) (k : XW p l e R s m args below meth c Q D A KC KS nL h kc ks lv (pc + 1) (.int x :: st)) : XW p l e R s m args below meth c Q D A KC KS nL h kc ks lv pc st := fun H locs cells slots ls hP hD hS hc hs hl => lv_iload_n C.1.1 C.1.2 d rfl (lv_at hl j hj) (k H locs cells slots ls hP hD hS hc hs hl)
theorem xr_iload (C : XC p R s m args c D E A nL own cc KC KS) {i : Nat} {x : Int32} (d : decode cc pc = .ok (.iload i, 2)) (j : Nat) (hj : lv[j]? = some (i, .int x)) (k : XW p l e R s m args below meth c Q D A KC KS nL h kc ks lv (pc + 2) (.int x :: st)) : XW p l e R s m args below meth c Q D A KC KS nL h kc ks lv pc st := fun H locs cells slots ls hP hD hS hc hs hl => lv_iload C.1.1 C.1.2 d (lv_at hl j hj) (k H locs cells slots ls hP hD hS hc hs hl)
theorem xr_lload_n (C : XC p R s m args c D E A nL own cc KC KS) {k0 : Fin 4} {x : Int64} (d : decode cc pc = .ok (.lload_n k0, 1)) (j : Nat) (hj : lv[j]? = some ((k0 : Nat), .long x)) (k : XW p l e R s m args below meth c Q D A KC KS nL h kc ks lv (pc + 1) (.long x :: st)) : XW p l e R s m args below meth c Q D A KC KS nL h kc ks lv pc st := fun H locs cells slots ls hP hD hS hc hs hl => lv_lload_n C.1.1 C.1.2 d rfl (lv_at hl j hj) (k H locs cells slots ls hP hD hS hc hs hl)
theorem xr_lload (C : XC p R s m args c D E A nL own cc KC KS) {i : Nat} {x : Int64} (d : decode cc pc = .ok (.lload i, 2)) (j : Nat) (hj : lv[j]? = some (i, .long x)) (k : XW p l e R s m args below meth c Q D A KC KS nL h kc ks lv (pc + 2) (.long x :: st)) : XW p l e R s m args below meth c Q D A KC KS nL h kc ks lv pc st := fun H locs cells slots ls hP hD hS hc hs hl => lv_lload C.1.1 C.1.2 d (lv_at hl j hj) (k H locs cells slots ls hP hD hS hc hs hl)
theorem xr_aload_n (C : XC p R s m args c D E A nL own cc KC KS) {k0 : Fin 4} {r : Option Nat} (d : decode cc pc = .ok (.aload_n k0, 1)) (j : Nat) (hj : lv[j]? = some ((k0 : Nat), va_rf r)) (k : XW p l e R s m args below meth c Q D A KC KS nL h kc ks lv (pc + 1) (va_rf r :: st)) : XW p l e R s m args below meth c Q D A KC KS nL h kc ks lv pc st := by
  intro H locs cells slots ls hP hD hS hc hs hl
  cases r with
  | none => exact lv_aload_nN C.1.1 C.1.2 d rfl (lv_at hl j hj) (k H locs cells slots ls hP hD hS hc hs hl)
  | some x => exact lv_aload_n C.1.1 C.1.2 d rfl (lv_at hl j hj) (k H locs cells slots ls hP hD hS hc hs hl)
theorem xr_aload (C : XC p R s m args c D E A nL own cc KC KS) {i : Nat} {r : Option Nat} (d : decode cc pc = .ok (.aload i, 2)) (j : Nat) (hj : lv[j]? = some (i, va_rf r)) (k : XW p l e R s m args below meth c Q D A KC KS nL h kc ks lv (pc + 2) (va_rf r :: st)) : XW p l e R s m args below meth c Q D A KC KS nL h kc ks lv pc st := by
  intro H locs cells slots ls hP hD hS hc hs hl
  cases r with
  | none => exact lv_aloadN C.1.1 C.1.2 d (lv_at hl j hj) (k H locs cells slots ls hP hD hS hc hs hl)
  | some x => exact lv_aload C.1.1 C.1.2 d (lv_at hl j hj) (k H locs cells slots ls hP hD hS hc hs hl)
theorem xr_istore_n (C : XC p R s m args c D E A nL own cc KC KS) {k0 : Fin 4} {x : Int32} {lv' : List (Nat × Value)} (d : decode cc pc = .ok (.istore_n k0, 1)) (hn : (k0 : Nat) < nL) (hj : xv_put1 lv (k0 : Nat) (.int x) = lv') (k : XW p l e R s m args below meth c Q D A KC KS nL h kc ks lv' (pc + 1) st) : XW p l e R s m args below meth c Q D A KC KS nL h kc ks lv pc (.int x :: st) := fun H locs cells slots ls hP hD hS hc hs hl => lv_istore_n C.1.1 C.1.2 d rfl hl hn hj (fun ls' hl' => k H locs cells slots ls' hP hD hS hc hs hl')
theorem xr_istore (C : XC p R s m args c D E A nL own cc KC KS) {i : Nat} {x : Int32} {lv' : List (Nat × Value)} (d : decode cc pc = .ok (.istore i, 2)) (hn : i < nL) (hj : xv_put1 lv i (.int x) = lv') (k : XW p l e R s m args below meth c Q D A KC KS nL h kc ks lv' (pc + 2) st) : XW p l e R s m args below meth c Q D A KC KS nL h kc ks lv pc (.int x :: st) := fun H locs cells slots ls hP hD hS hc hs hl => lv_istore C.1.1 C.1.2 d hl hn hj (fun ls' hl' => k H locs cells slots ls' hP hD hS hc hs hl')
theorem xr_lstore_n (C : XC p R s m args c D E A nL own cc KC KS) {k0 : Fin 4} {x : Int64} {lv' : List (Nat × Value)} (d : decode cc pc = .ok (.lstore_n k0, 1)) (hn : (k0 : Nat) + 1 < nL) (hj : xv_put2 lv (k0 : Nat) (.long x) = lv') (k : XW p l e R s m args below meth c Q D A KC KS nL h kc ks lv' (pc + 1) st) : XW p l e R s m args below meth c Q D A KC KS nL h kc ks lv pc (.long x :: st) := fun H locs cells slots ls hP hD hS hc hs hl => lv_lstore_n C.1.1 C.1.2 d rfl hl hn hj (fun ls' hl' => k H locs cells slots ls' hP hD hS hc hs hl')
theorem xr_lstore (C : XC p R s m args c D E A nL own cc KC KS) {i : Nat} {x : Int64} {lv' : List (Nat × Value)} (d : decode cc pc = .ok (.lstore i, 2)) (hn : i + 1 < nL) (hj : xv_put2 lv i (.long x) = lv') (k : XW p l e R s m args below meth c Q D A KC KS nL h kc ks lv' (pc + 2) st) : XW p l e R s m args below meth c Q D A KC KS nL h kc ks lv pc (.long x :: st) := fun H locs cells slots ls hP hD hS hc hs hl => lv_lstore C.1.1 C.1.2 d hl hn hj (fun ls' hl' => k H locs cells slots ls' hP hD hS hc hs hl')
theorem xr_astore_n (C : XC p R s m args c D E A nL own cc KC KS) {k0 : Fin 4} {r : Option Nat} {lv' : List (Nat × Value)} (d : decode cc pc = .ok (.astore_n k0, 1)) (hn : (k0 : Nat) < nL) (hj : xv_put1 lv (k0 : Nat) (va_rf r) = lv') (k : XW p l e R s m args below meth c Q D A KC KS nL h kc ks lv' (pc + 1) st) : XW p l e R s m args below meth c Q D A KC KS nL h kc ks lv pc (va_rf r :: st) := by
  intro H locs cells slots ls hP hD hS hc hs hl
  cases r with
  | none => exact lv_astore_nN C.1.1 C.1.2 d rfl hl hn hj (fun ls' hl' => k H locs cells slots ls' hP hD hS hc hs hl')
  | some x => exact lv_astore_n C.1.1 C.1.2 d rfl hl hn hj (fun ls' hl' => k H locs cells slots ls' hP hD hS hc hs hl')
theorem xr_astore (C : XC p R s m args c D E A nL own cc KC KS) {i : Nat} {r : Option Nat} {lv' : List (Nat × Value)} (d : decode cc pc = .ok (.astore i, 2)) (hn : i < nL) (hj : xv_put1 lv i (va_rf r) = lv') (k : XW p l e R s m args below meth c Q D A KC KS nL h kc ks lv' (pc + 2) st) : XW p l e R s m args below meth c Q D A KC KS nL h kc ks lv pc (va_rf r :: st) := by
  intro H locs cells slots ls hP hD hS hc hs hl
  cases r with
  | none => exact lv_astoreN C.1.1 C.1.2 d hl hn hj (fun ls' hl' => k H locs cells slots ls' hP hD hS hc hs hl')
  | some x => exact lv_astore C.1.1 C.1.2 d hl hn hj (fun ls' hl' => k H locs cells slots ls' hP hD hS hc hs hl')
theorem xr_iinc (C : XC p R s m args c D E A nL own cc KC KS) {i j : Nat} {n : Int} {x v : Int32} {lv' : List (Nat × Value)} (d : decode cc pc = .ok (.iinc i n, 3)) (hk : lv[j]? = some (i, .int x)) (hv : x + Int32.ofInt n = v) (hn : i < nL) (hj : xv_put1 lv i (.int v) = lv') (k : XW p l e R s m args below meth c Q D A KC KS nL h kc ks lv' (pc + 3) st) : XW p l e R s m args below meth c Q D A KC KS nL h kc ks lv pc st := fun H locs cells slots ls hP hD hS hc hs hl => lv_iinc C.1.1 C.1.2 d hl hk hv hn hj (fun ls' hl' => k H locs cells slots ls' hP hD hS hc hs hl')
theorem xr_iadd (C : XC p R s m args c D E A nL own cc KC KS) {x y : Int32} (d : decode cc pc = .ok (.iadd, 1))  (k : XW p l e R s m args below meth c Q D A KC KS nL h kc ks lv (pc + 1) (.int (x + y) :: st)) : XW p l e R s m args below meth c Q D A KC KS nL h kc ks lv pc (.int y :: .int x :: st) := fun H locs cells slots ls hP hD hS hc hs hl => lv_iadd C.1.1 C.1.2 d  (k H locs cells slots ls hP hD hS hc hs hl)
theorem xr_isub (C : XC p R s m args c D E A nL own cc KC KS) {x y : Int32} (d : decode cc pc = .ok (.isub, 1))  (k : XW p l e R s m args below meth c Q D A KC KS nL h kc ks lv (pc + 1) (.int (x - y) :: st)) : XW p l e R s m args below meth c Q D A KC KS nL h kc ks lv pc (.int y :: .int x :: st) := fun H locs cells slots ls hP hD hS hc hs hl => lv_isub C.1.1 C.1.2 d  (k H locs cells slots ls hP hD hS hc hs hl)
theorem xr_imul (C : XC p R s m args c D E A nL own cc KC KS) {x y : Int32} (d : decode cc pc = .ok (.imul, 1))  (k : XW p l e R s m args below meth c Q D A KC KS nL h kc ks lv (pc + 1) (.int (x * y) :: st)) : XW p l e R s m args below meth c Q D A KC KS nL h kc ks lv pc (.int y :: .int x :: st) := fun H locs cells slots ls hP hD hS hc hs hl => lv_imul C.1.1 C.1.2 d  (k H locs cells slots ls hP hD hS hc hs hl)
theorem xr_iand (C : XC p R s m args c D E A nL own cc KC KS) {x y : Int32} (d : decode cc pc = .ok (.iand, 1))  (k : XW p l e R s m args below meth c Q D A KC KS nL h kc ks lv (pc + 1) (.int (x &&& y) :: st)) : XW p l e R s m args below meth c Q D A KC KS nL h kc ks lv pc (.int y :: .int x :: st) := fun H locs cells slots ls hP hD hS hc hs hl => lv_iand C.1.1 C.1.2 d  (k H locs cells slots ls hP hD hS hc hs hl)
theorem xr_ior (C : XC p R s m args c D E A nL own cc KC KS) {x y : Int32} (d : decode cc pc = .ok (.ior, 1))  (k : XW p l e R s m args below meth c Q D A KC KS nL h kc ks lv (pc + 1) (.int (x ||| y) :: st)) : XW p l e R s m args below meth c Q D A KC KS nL h kc ks lv pc (.int y :: .int x :: st) := fun H locs cells slots ls hP hD hS hc hs hl => lv_ior C.1.1 C.1.2 d  (k H locs cells slots ls hP hD hS hc hs hl)
theorem xr_ixor (C : XC p R s m args c D E A nL own cc KC KS) {x y : Int32} (d : decode cc pc = .ok (.ixor, 1))  (k : XW p l e R s m args below meth c Q D A KC KS nL h kc ks lv (pc + 1) (.int (x ^^^ y) :: st)) : XW p l e R s m args below meth c Q D A KC KS nL h kc ks lv pc (.int y :: .int x :: st) := fun H locs cells slots ls hP hD hS hc hs hl => lv_ixor C.1.1 C.1.2 d  (k H locs cells slots ls hP hD hS hc hs hl)
theorem xr_ladd (C : XC p R s m args c D E A nL own cc KC KS) {x y : Int64} (d : decode cc pc = .ok (.ladd, 1))  (k : XW p l e R s m args below meth c Q D A KC KS nL h kc ks lv (pc + 1) (.long (x + y) :: st)) : XW p l e R s m args below meth c Q D A KC KS nL h kc ks lv pc (.long y :: .long x :: st) := fun H locs cells slots ls hP hD hS hc hs hl => lv_ladd C.1.1 C.1.2 d  (k H locs cells slots ls hP hD hS hc hs hl)
theorem xr_lsub (C : XC p R s m args c D E A nL own cc KC KS) {x y : Int64} (d : decode cc pc = .ok (.lsub, 1))  (k : XW p l e R s m args below meth c Q D A KC KS nL h kc ks lv (pc + 1) (.long (x - y) :: st)) : XW p l e R s m args below meth c Q D A KC KS nL h kc ks lv pc (.long y :: .long x :: st) := fun H locs cells slots ls hP hD hS hc hs hl => lv_lsub C.1.1 C.1.2 d  (k H locs cells slots ls hP hD hS hc hs hl)
theorem xr_lmul (C : XC p R s m args c D E A nL own cc KC KS) {x y : Int64} (d : decode cc pc = .ok (.lmul, 1))  (k : XW p l e R s m args below meth c Q D A KC KS nL h kc ks lv (pc + 1) (.long (x * y) :: st)) : XW p l e R s m args below meth c Q D A KC KS nL h kc ks lv pc (.long y :: .long x :: st) := fun H locs cells slots ls hP hD hS hc hs hl => lv_lmul C.1.1 C.1.2 d  (k H locs cells slots ls hP hD hS hc hs hl)
theorem xr_land (C : XC p R s m args c D E A nL own cc KC KS) {x y : Int64} (d : decode cc pc = .ok (.land, 1))  (k : XW p l e R s m args below meth c Q D A KC KS nL h kc ks lv (pc + 1) (.long (x &&& y) :: st)) : XW p l e R s m args below meth c Q D A KC KS nL h kc ks lv pc (.long y :: .long x :: st) := fun H locs cells slots ls hP hD hS hc hs hl => lv_land C.1.1 C.1.2 d  (k H locs cells slots ls hP hD hS hc hs hl)
theorem xr_lor (C : XC p R s m args c D E A nL own cc KC KS) {x y : Int64} (d : decode cc pc = .ok (.lor, 1))  (k : XW p l e R s m args below meth c Q D A KC KS nL h kc ks lv (pc + 1) (.long (x ||| y) :: st)) : XW p l e R s m args below meth c Q D A KC KS nL h kc ks lv pc (.long y :: .long x :: st) := fun H locs cells slots ls hP hD hS hc hs hl => lv_lor C.1.1 C.1.2 d  (k H locs cells slots ls hP hD hS hc hs hl)
theorem xr_lxor (C : XC p R s m args c D E A nL own cc KC KS) {x y : Int64} (d : decode cc pc = .ok (.lxor, 1))  (k : XW p l e R s m args below meth c Q D A KC KS nL h kc ks lv (pc + 1) (.long (x ^^^ y) :: st)) : XW p l e R s m args below meth c Q D A KC KS nL h kc ks lv pc (.long y :: .long x :: st) := fun H locs cells slots ls hP hD hS hc hs hl => lv_lxor C.1.1 C.1.2 d  (k H locs cells slots ls hP hD hS hc hs hl)
theorem xr_idiv (C : XC p R s m args c D E A nL own cc KC KS) {x y : Int32} (d : decode cc pc = .ok (.idiv, 1)) (hne : ¬ y = 0) (k : XW p l e R s m args below meth c Q D A KC KS nL h kc ks lv (pc + 1) (.int (x / y) :: st)) : XW p l e R s m args below meth c Q D A KC KS nL h kc ks lv pc (.int y :: .int x :: st) := fun H locs cells slots ls hP hD hS hc hs hl => lv_idiv C.1.1 C.1.2 d hne (k H locs cells slots ls hP hD hS hc hs hl)
theorem xr_irem (C : XC p R s m args c D E A nL own cc KC KS) {x y : Int32} (d : decode cc pc = .ok (.irem, 1)) (hne : ¬ y = 0) (k : XW p l e R s m args below meth c Q D A KC KS nL h kc ks lv (pc + 1) (.int (x - x / y * y) :: st)) : XW p l e R s m args below meth c Q D A KC KS nL h kc ks lv pc (.int y :: .int x :: st) := fun H locs cells slots ls hP hD hS hc hs hl => lv_irem C.1.1 C.1.2 d hne (k H locs cells slots ls hP hD hS hc hs hl)
theorem xr_ldiv (C : XC p R s m args c D E A nL own cc KC KS) {x y : Int64} (d : decode cc pc = .ok (.ldiv, 1)) (hne : ¬ y = 0) (k : XW p l e R s m args below meth c Q D A KC KS nL h kc ks lv (pc + 1) (.long (x / y) :: st)) : XW p l e R s m args below meth c Q D A KC KS nL h kc ks lv pc (.long y :: .long x :: st) := fun H locs cells slots ls hP hD hS hc hs hl => lv_ldiv C.1.1 C.1.2 d hne (k H locs cells slots ls hP hD hS hc hs hl)
theorem xr_lrem (C : XC p R s m args c D E A nL own cc KC KS) {x y : Int64} (d : decode cc pc = .ok (.lrem, 1)) (hne : ¬ y = 0) (k : XW p l e R s m args below meth c Q D A KC KS nL h kc ks lv (pc + 1) (.long (x - x / y * y) :: st)) : XW p l e R s m args below meth c Q D A KC KS nL h kc ks lv pc (.long y :: .long x :: st) := fun H locs cells slots ls hP hD hS hc hs hl => lv_lrem C.1.1 C.1.2 d hne (k H locs cells slots ls hP hD hS hc hs hl)
theorem xr_ineg (C : XC p R s m args c D E A nL own cc KC KS) {x : Int32} (d : decode cc pc = .ok (.ineg, 1))  (k : XW p l e R s m args below meth c Q D A KC KS nL h kc ks lv (pc + 1) (.int (-x) :: st)) : XW p l e R s m args below meth c Q D A KC KS nL h kc ks lv pc (.int x :: st) := fun H locs cells slots ls hP hD hS hc hs hl => lv_ineg C.1.1 C.1.2 d  (k H locs cells slots ls hP hD hS hc hs hl)
theorem xr_lneg (C : XC p R s m args c D E A nL own cc KC KS) {x : Int64} (d : decode cc pc = .ok (.lneg, 1))  (k : XW p l e R s m args below meth c Q D A KC KS nL h kc ks lv (pc + 1) (.long (-x) :: st)) : XW p l e R s m args below meth c Q D A KC KS nL h kc ks lv pc (.long x :: st) := fun H locs cells slots ls hP hD hS hc hs hl => lv_lneg C.1.1 C.1.2 d  (k H locs cells slots ls hP hD hS hc hs hl)
theorem xr_ishl (C : XC p R s m args c D E A nL own cc KC KS) {x y : Int32} (d : decode cc pc = .ok (.ishl, 1))  (k : XW p l e R s m args below meth c Q D A KC KS nL h kc ks lv (pc + 1) (.int (x <<< (y &&& 31)) :: st)) : XW p l e R s m args below meth c Q D A KC KS nL h kc ks lv pc (.int y :: .int x :: st) := fun H locs cells slots ls hP hD hS hc hs hl => lv_ishl C.1.1 C.1.2 d  (k H locs cells slots ls hP hD hS hc hs hl)
theorem xr_ishr (C : XC p R s m args c D E A nL own cc KC KS) {x y : Int32} (d : decode cc pc = .ok (.ishr, 1))  (k : XW p l e R s m args below meth c Q D A KC KS nL h kc ks lv (pc + 1) (.int (x >>> (y &&& 31)) :: st)) : XW p l e R s m args below meth c Q D A KC KS nL h kc ks lv pc (.int y :: .int x :: st) := fun H locs cells slots ls hP hD hS hc hs hl => lv_ishr C.1.1 C.1.2 d  (k H locs cells slots ls hP hD hS hc hs hl)
theorem xr_i2l (C : XC p R s m args c D E A nL own cc KC KS) {x : Int32} {v : Int64} (d : decode cc pc = .ok (.i2l, 1)) (hv : x.toInt64 = v) (k : XW p l e R s m args below meth c Q D A KC KS nL h kc ks lv (pc + 1) (.long v :: st)) : XW p l e R s m args below meth c Q D A KC KS nL h kc ks lv pc (.int x :: st) := fun H locs cells slots ls hP hD hS hc hs hl => lv_i2l C.1.1 C.1.2 d hv (k H locs cells slots ls hP hD hS hc hs hl)
theorem xr_l2i (C : XC p R s m args c D E A nL own cc KC KS) {x : Int64} {v : Int32} (d : decode cc pc = .ok (.l2i, 1)) (hv : x.toInt32 = v) (k : XW p l e R s m args below meth c Q D A KC KS nL h kc ks lv (pc + 1) (.int v :: st)) : XW p l e R s m args below meth c Q D A KC KS nL h kc ks lv pc (.long x :: st) := fun H locs cells slots ls hP hD hS hc hs hl => lv_l2i C.1.1 C.1.2 d hv (k H locs cells slots ls hP hD hS hc hs hl)
theorem xr_lshl (C : XC p R s m args c D E A nL own cc KC KS) {x v : Int64} {y : Int32} (d : decode cc pc = .ok (.lshl, 1)) (hv : x <<< (y.toInt64 &&& 63) = v) (k : XW p l e R s m args below meth c Q D A KC KS nL h kc ks lv (pc + 1) (.long v :: st)) : XW p l e R s m args below meth c Q D A KC KS nL h kc ks lv pc (.int y :: .long x :: st) := fun H locs cells slots ls hP hD hS hc hs hl => lv_lshl C.1.1 C.1.2 d hv (k H locs cells slots ls hP hD hS hc hs hl)
theorem xr_lshr (C : XC p R s m args c D E A nL own cc KC KS) {x v : Int64} {y : Int32} (d : decode cc pc = .ok (.lshr, 1)) (hv : x >>> (y.toInt64 &&& 63) = v) (k : XW p l e R s m args below meth c Q D A KC KS nL h kc ks lv (pc + 1) (.long v :: st)) : XW p l e R s m args below meth c Q D A KC KS nL h kc ks lv pc (.int y :: .long x :: st) := fun H locs cells slots ls hP hD hS hc hs hl => lv_lshr C.1.1 C.1.2 d hv (k H locs cells slots ls hP hD hS hc hs hl)
theorem xr_iushr (C : XC p R s m args c D E A nL own cc KC KS) {x y v : Int32} (d : decode cc pc = .ok (.iushr, 1)) (hv : (x.toUInt32 >>> (y.toUInt32 &&& Int32.toUInt32 31)).toInt32 = v) (k : XW p l e R s m args below meth c Q D A KC KS nL h kc ks lv (pc + 1) (.int v :: st)) : XW p l e R s m args below meth c Q D A KC KS nL h kc ks lv pc (.int y :: .int x :: st) := fun H locs cells slots ls hP hD hS hc hs hl => lv_iushr C.1.1 C.1.2 d hv (k H locs cells slots ls hP hD hS hc hs hl)
theorem xr_lushr (C : XC p R s m args c D E A nL own cc KC KS) {x v : Int64} {y : Int32} (d : decode cc pc = .ok (.lushr, 1)) (hv : (x.toUInt64 >>> (y.toInt64.toUInt64 &&& Int64.toUInt64 63)).toInt64 = v) (k : XW p l e R s m args below meth c Q D A KC KS nL h kc ks lv (pc + 1) (.long v :: st)) : XW p l e R s m args below meth c Q D A KC KS nL h kc ks lv pc (.int y :: .long x :: st) := fun H locs cells slots ls hP hD hS hc hs hl => lv_lushr C.1.1 C.1.2 d hv (k H locs cells slots ls hP hD hS hc hs hl)
theorem xr_lcmp (C : XC p R s m args c D E A nL own cc KC KS) {x y : Int64} (d : decode cc pc = .ok (.lcmp, 1))  (k : XW p l e R s m args below meth c Q D A KC KS nL h kc ks lv (pc + 1) (.int (lg_cmp x y) :: st)) : XW p l e R s m args below meth c Q D A KC KS nL h kc ks lv pc (.long y :: .long x :: st) := fun H locs cells slots ls hP hD hS hc hs hl => W.lcmp C.1.1 C.1.2 d  (k H locs cells slots ls hP hD hS hc hs hl)
theorem xr_dup (C : XC p R s m args c D E A nL own cc KC KS) {a : Value} (d : decode cc pc = .ok (.dup, 1)) (h1 : a.category = 1) (k : XW p l e R s m args below meth c Q D A KC KS nL h kc ks lv (pc + 1) (a :: a :: st)) : XW p l e R s m args below meth c Q D A KC KS nL h kc ks lv pc (a :: st) := fun H locs cells slots ls hP hD hS hc hs hl => lv_dup C.1.1 C.1.2 d h1 (k H locs cells slots ls hP hD hS hc hs hl)
theorem xr_pop (C : XC p R s m args c D E A nL own cc KC KS) {a : Value} (d : decode cc pc = .ok (.pop, 1)) (h1 : a.category = 1) (k : XW p l e R s m args below meth c Q D A KC KS nL h kc ks lv (pc + 1) (st)) : XW p l e R s m args below meth c Q D A KC KS nL h kc ks lv pc (a :: st) := fun H locs cells slots ls hP hD hS hc hs hl => lv_pop C.1.1 C.1.2 d h1 (k H locs cells slots ls hP hD hS hc hs hl)
theorem xr_dup_x1 (C : XC p R s m args c D E A nL own cc KC KS) {a b : Value} (d : decode cc pc = .ok (.dup_x1, 1)) (h1 : a.category = 1) (h2 : b.category = 1) (k : XW p l e R s m args below meth c Q D A KC KS nL h kc ks lv (pc + 1) (a :: b :: a :: st)) : XW p l e R s m args below meth c Q D A KC KS nL h kc ks lv pc (a :: b :: st) := fun H locs cells slots ls hP hD hS hc hs hl => lv_dup_x1 C.1.1 C.1.2 d h1 h2 (k H locs cells slots ls hP hD hS hc hs hl)
theorem xr_dup_x2 (C : XC p R s m args c D E A nL own cc KC KS) {a b b2 : Value} (d : decode cc pc = .ok (.dup_x2, 1)) (h1 : a.category = 1) (h2 : b.category = 1) (h3 : b2.category = 1) (k : XW p l e R s m args below meth c Q D A KC KS nL h kc ks lv (pc + 1) (a :: b :: b2 :: a :: st)) : XW p l e R s m args below meth c Q D A KC KS nL h kc ks lv pc (a :: b :: b2 :: st) := fun H locs cells slots ls hP hD hS hc hs hl => lv_dup_x2 C.1.1 C.1.2 d h1 h2 h3 (k H locs cells slots ls hP hD hS hc hs hl)
theorem xr_dup2_11 (C : XC p R s m args c D E A nL own cc KC KS) {a b : Value} (d : decode cc pc = .ok (.dup2, 1)) (h1 : a.category = 1) (h2 : b.category = 1) (k : XW p l e R s m args below meth c Q D A KC KS nL h kc ks lv (pc + 1) (a :: b :: a :: b :: st)) : XW p l e R s m args below meth c Q D A KC KS nL h kc ks lv pc (a :: b :: st) := fun H locs cells slots ls hP hD hS hc hs hl => lv_dup2_11 C.1.1 C.1.2 d h1 h2 (k H locs cells slots ls hP hD hS hc hs hl)
theorem xr_dup2_2 (C : XC p R s m args c D E A nL own cc KC KS) {a : Value} (d : decode cc pc = .ok (.dup2, 1)) (h1 : a.category = 2) (k : XW p l e R s m args below meth c Q D A KC KS nL h kc ks lv (pc + 1) (a :: a :: st)) : XW p l e R s m args below meth c Q D A KC KS nL h kc ks lv pc (a :: st) := fun H locs cells slots ls hP hD hS hc hs hl => lv_dup2_2 C.1.1 C.1.2 d h1 (k H locs cells slots ls hP hD hS hc hs hl)
theorem xr_pop2_2 (C : XC p R s m args c D E A nL own cc KC KS) {a : Value} (d : decode cc pc = .ok (.pop2, 1)) (h1 : a.category = 2) (k : XW p l e R s m args below meth c Q D A KC KS nL h kc ks lv (pc + 1) (st)) : XW p l e R s m args below meth c Q D A KC KS nL h kc ks lv pc (a :: st) := fun H locs cells slots ls hP hD hS hc hs hl => lv_pop2_2 C.1.1 C.1.2 d h1 (k H locs cells slots ls hP hD hS hc hs hl)
theorem xr_dup2_x1_2 (C : XC p R s m args c D E A nL own cc KC KS) {a b : Value} (d : decode cc pc = .ok (.dup2_x1, 1)) (h1 : a.category = 2) (h2 : b.category = 1) (k : XW p l e R s m args below meth c Q D A KC KS nL h kc ks lv (pc + 1) (a :: b :: a :: st)) : XW p l e R s m args below meth c Q D A KC KS nL h kc ks lv pc (a :: b :: st) := fun H locs cells slots ls hP hD hS hc hs hl => lv_dup2_x1_2 C.1.1 C.1.2 d h1 h2 (k H locs cells slots ls hP hD hS hc hs hl)
theorem xr_goto (C : XC p R s m args c D E A nL own cc KC KS) {off : Int} {tgt : Nat} (d : decode cc pc = .ok (.goto off, 3)) (ht : (pc : Int) + off = (tgt : Int)) (k : XW p l e R s m args below meth c Q D A KC KS nL h kc ks lv tgt (st)) : XW p l e R s m args below meth c Q D A KC KS nL h kc ks lv pc (st) := fun H locs cells slots ls hP hD hS hc hs hl => lv_goto C.1.1 C.1.2 d ht (k H locs cells slots ls hP hD hS hc hs hl)
theorem xr_if_eq (C : XC p R s m args c D E A nL own cc KC KS) {x : Int32} {off : Int} {tgt : Nat} (d : decode cc pc = .ok (.ifCond .eq off, 3)) (ht : (pc : Int) + off = (tgt : Int)) (kt : x = 0 → XW p l e R s m args below meth c Q D A KC KS nL h kc ks lv tgt st) (kf : ¬ x = 0 → XW p l e R s m args below meth c Q D A KC KS nL h kc ks lv (pc + 3) st) : XW p l e R s m args below meth c Q D A KC KS nL h kc ks lv pc (.int x :: st) := fun H locs cells slots ls hP hD hS hc hs hl => lv_if_eq C.1.1 C.1.2 d ht (fun q => kt q H locs cells slots ls hP hD hS hc hs hl) (fun q => kf q H locs cells slots ls hP hD hS hc hs hl)
theorem xr_icmp_eq (C : XC p R s m args c D E A nL own cc KC KS) {x y : Int32} {off : Int} {tgt : Nat} (d : decode cc pc = .ok (.if_icmp .eq off, 3)) (ht : (pc : Int) + off = (tgt : Int)) (kt : x = y → XW p l e R s m args below meth c Q D A KC KS nL h kc ks lv tgt st) (kf : ¬ x = y → XW p l e R s m args below meth c Q D A KC KS nL h kc ks lv (pc + 3) st) : XW p l e R s m args below meth c Q D A KC KS nL h kc ks lv pc (.int y :: .int x :: st) := fun H locs cells slots ls hP hD hS hc hs hl => lv_icmp_eq C.1.1 C.1.2 d ht (fun q => kt q H locs cells slots ls hP hD hS hc hs hl) (fun q => kf q H locs cells slots ls hP hD hS hc hs hl)
theorem xr_if_ne (C : XC p R s m args c D E A nL own cc KC KS) {x : Int32} {off : Int} {tgt : Nat} (d : decode cc pc = .ok (.ifCond .ne off, 3)) (ht : (pc : Int) + off = (tgt : Int)) (kt : ¬ x = 0 → XW p l e R s m args below meth c Q D A KC KS nL h kc ks lv tgt st) (kf : x = 0 → XW p l e R s m args below meth c Q D A KC KS nL h kc ks lv (pc + 3) st) : XW p l e R s m args below meth c Q D A KC KS nL h kc ks lv pc (.int x :: st) := fun H locs cells slots ls hP hD hS hc hs hl => lv_if_ne C.1.1 C.1.2 d ht (fun q => kt q H locs cells slots ls hP hD hS hc hs hl) (fun q => kf q H locs cells slots ls hP hD hS hc hs hl)
theorem xr_icmp_ne (C : XC p R s m args c D E A nL own cc KC KS) {x y : Int32} {off : Int} {tgt : Nat} (d : decode cc pc = .ok (.if_icmp .ne off, 3)) (ht : (pc : Int) + off = (tgt : Int)) (kt : ¬ x = y → XW p l e R s m args below meth c Q D A KC KS nL h kc ks lv tgt st) (kf : x = y → XW p l e R s m args below meth c Q D A KC KS nL h kc ks lv (pc + 3) st) : XW p l e R s m args below meth c Q D A KC KS nL h kc ks lv pc (.int y :: .int x :: st) := fun H locs cells slots ls hP hD hS hc hs hl => lv_icmp_ne C.1.1 C.1.2 d ht (fun q => kt q H locs cells slots ls hP hD hS hc hs hl) (fun q => kf q H locs cells slots ls hP hD hS hc hs hl)
theorem xr_if_lt (C : XC p R s m args c D E A nL own cc KC KS) {x : Int32} {off : Int} {tgt : Nat} (d : decode cc pc = .ok (.ifCond .lt off, 3)) (ht : (pc : Int) + off = (tgt : Int)) (kt : x < 0 → XW p l e R s m args below meth c Q D A KC KS nL h kc ks lv tgt st) (kf : ¬ x < 0 → XW p l e R s m args below meth c Q D A KC KS nL h kc ks lv (pc + 3) st) : XW p l e R s m args below meth c Q D A KC KS nL h kc ks lv pc (.int x :: st) := fun H locs cells slots ls hP hD hS hc hs hl => lv_if_lt C.1.1 C.1.2 d ht (fun q => kt q H locs cells slots ls hP hD hS hc hs hl) (fun q => kf q H locs cells slots ls hP hD hS hc hs hl)
theorem xr_icmp_lt (C : XC p R s m args c D E A nL own cc KC KS) {x y : Int32} {off : Int} {tgt : Nat} (d : decode cc pc = .ok (.if_icmp .lt off, 3)) (ht : (pc : Int) + off = (tgt : Int)) (kt : x < y → XW p l e R s m args below meth c Q D A KC KS nL h kc ks lv tgt st) (kf : ¬ x < y → XW p l e R s m args below meth c Q D A KC KS nL h kc ks lv (pc + 3) st) : XW p l e R s m args below meth c Q D A KC KS nL h kc ks lv pc (.int y :: .int x :: st) := fun H locs cells slots ls hP hD hS hc hs hl => lv_icmp_lt C.1.1 C.1.2 d ht (fun q => kt q H locs cells slots ls hP hD hS hc hs hl) (fun q => kf q H locs cells slots ls hP hD hS hc hs hl)
theorem xr_if_ge (C : XC p R s m args c D E A nL own cc KC KS) {x : Int32} {off : Int} {tgt : Nat} (d : decode cc pc = .ok (.ifCond .ge off, 3)) (ht : (pc : Int) + off = (tgt : Int)) (kt : 0 ≤ x → XW p l e R s m args below meth c Q D A KC KS nL h kc ks lv tgt st) (kf : ¬ 0 ≤ x → XW p l e R s m args below meth c Q D A KC KS nL h kc ks lv (pc + 3) st) : XW p l e R s m args below meth c Q D A KC KS nL h kc ks lv pc (.int x :: st) := fun H locs cells slots ls hP hD hS hc hs hl => lv_if_ge C.1.1 C.1.2 d ht (fun q => kt q H locs cells slots ls hP hD hS hc hs hl) (fun q => kf q H locs cells slots ls hP hD hS hc hs hl)
theorem xr_icmp_ge (C : XC p R s m args c D E A nL own cc KC KS) {x y : Int32} {off : Int} {tgt : Nat} (d : decode cc pc = .ok (.if_icmp .ge off, 3)) (ht : (pc : Int) + off = (tgt : Int)) (kt : y ≤ x → XW p l e R s m args below meth c Q D A KC KS nL h kc ks lv tgt st) (kf : ¬ y ≤ x → XW p l e R s m args below meth c Q D A KC KS nL h kc ks lv (pc + 3) st) : XW p l e R s m args below meth c Q D A KC KS nL h kc ks lv pc (.int y :: .int x :: st) := fun H locs cells slots ls hP hD hS hc hs hl => lv_icmp_ge C.1.1 C.1.2 d ht (fun q => kt q H locs cells slots ls hP hD hS hc hs hl) (fun q => kf q H locs cells slots ls hP hD hS hc hs hl)
theorem xr_if_gt (C : XC p R s m args c D E A nL own cc KC KS) {x : Int32} {off : Int} {tgt : Nat} (d : decode cc pc = .ok (.ifCond .gt off, 3)) (ht : (pc : Int) + off = (tgt : Int)) (kt : 0 < x → XW p l e R s m args below meth c Q D A KC KS nL h kc ks lv tgt st) (kf : ¬ 0 < x → XW p l e R s m args below meth c Q D A KC KS nL h kc ks lv (pc + 3) st) : XW p l e R s m args below meth c Q D A KC KS nL h kc ks lv pc (.int x :: st) := fun H locs cells slots ls hP hD hS hc hs hl => lv_if_gt C.1.1 C.1.2 d ht (fun q => kt q H locs cells slots ls hP hD hS hc hs hl) (fun q => kf q H locs cells slots ls hP hD hS hc hs hl)
theorem xr_icmp_gt (C : XC p R s m args c D E A nL own cc KC KS) {x y : Int32} {off : Int} {tgt : Nat} (d : decode cc pc = .ok (.if_icmp .gt off, 3)) (ht : (pc : Int) + off = (tgt : Int)) (kt : y < x → XW p l e R s m args below meth c Q D A KC KS nL h kc ks lv tgt st) (kf : ¬ y < x → XW p l e R s m args below meth c Q D A KC KS nL h kc ks lv (pc + 3) st) : XW p l e R s m args below meth c Q D A KC KS nL h kc ks lv pc (.int y :: .int x :: st) := fun H locs cells slots ls hP hD hS hc hs hl => lv_icmp_gt C.1.1 C.1.2 d ht (fun q => kt q H locs cells slots ls hP hD hS hc hs hl) (fun q => kf q H locs cells slots ls hP hD hS hc hs hl)
theorem xr_if_le (C : XC p R s m args c D E A nL own cc KC KS) {x : Int32} {off : Int} {tgt : Nat} (d : decode cc pc = .ok (.ifCond .le off, 3)) (ht : (pc : Int) + off = (tgt : Int)) (kt : x ≤ 0 → XW p l e R s m args below meth c Q D A KC KS nL h kc ks lv tgt st) (kf : ¬ x ≤ 0 → XW p l e R s m args below meth c Q D A KC KS nL h kc ks lv (pc + 3) st) : XW p l e R s m args below meth c Q D A KC KS nL h kc ks lv pc (.int x :: st) := fun H locs cells slots ls hP hD hS hc hs hl => lv_if_le C.1.1 C.1.2 d ht (fun q => kt q H locs cells slots ls hP hD hS hc hs hl) (fun q => kf q H locs cells slots ls hP hD hS hc hs hl)
theorem xr_icmp_le (C : XC p R s m args c D E A nL own cc KC KS) {x y : Int32} {off : Int} {tgt : Nat} (d : decode cc pc = .ok (.if_icmp .le off, 3)) (ht : (pc : Int) + off = (tgt : Int)) (kt : x ≤ y → XW p l e R s m args below meth c Q D A KC KS nL h kc ks lv tgt st) (kf : ¬ x ≤ y → XW p l e R s m args below meth c Q D A KC KS nL h kc ks lv (pc + 3) st) : XW p l e R s m args below meth c Q D A KC KS nL h kc ks lv pc (.int y :: .int x :: st) := fun H locs cells slots ls hP hD hS hc hs hl => lv_icmp_le C.1.1 C.1.2 d ht (fun q => kt q H locs cells slots ls hP hD hS hc hs hl) (fun q => kf q H locs cells slots ls hP hD hS hc hs hl)
theorem xr_acmp_eq (C : XC p R s m args c D E A nL own cc KC KS) {rx ry : Option Nat} {off : Int} {tgt : Nat} (d : decode cc pc = .ok (.if_acmp .eq off, 3)) (ht : (pc : Int) + off = (tgt : Int)) (kt : rx = ry → XW p l e R s m args below meth c Q D A KC KS nL h kc ks lv tgt st) (kf : ¬ rx = ry → XW p l e R s m args below meth c Q D A KC KS nL h kc ks lv (pc + 3) st) : XW p l e R s m args below meth c Q D A KC KS nL h kc ks lv pc (va_rf ry :: va_rf rx :: st) := fun H locs cells slots ls hP hD hS hc hs hl => lv_acmp_eq C.1.1 C.1.2 d ht (fun q => kt q H locs cells slots ls hP hD hS hc hs hl) (fun q => kf q H locs cells slots ls hP hD hS hc hs hl)
theorem xr_acmp_ne (C : XC p R s m args c D E A nL own cc KC KS) {rx ry : Option Nat} {off : Int} {tgt : Nat} (d : decode cc pc = .ok (.if_acmp .ne off, 3)) (ht : (pc : Int) + off = (tgt : Int)) (kt : ¬ rx = ry → XW p l e R s m args below meth c Q D A KC KS nL h kc ks lv tgt st) (kf : rx = ry → XW p l e R s m args below meth c Q D A KC KS nL h kc ks lv (pc + 3) st) : XW p l e R s m args below meth c Q D A KC KS nL h kc ks lv pc (va_rf ry :: va_rf rx :: st) := fun H locs cells slots ls hP hD hS hc hs hl => lv_acmp_ne C.1.1 C.1.2 d ht (fun q => kt q H locs cells slots ls hP hD hS hc hs hl) (fun q => kf q H locs cells slots ls hP hD hS hc hs hl)
theorem xr_ifnull (C : XC p R s m args c D E A nL own cc KC KS) {r : Option Nat} {off : Int} {tgt : Nat} (d : decode cc pc = .ok (.ifnull off, 3)) (ht : (pc : Int) + off = (tgt : Int)) (kt : r = none → XW p l e R s m args below meth c Q D A KC KS nL h kc ks lv tgt st) (kf : ∀ a, r = some a → XW p l e R s m args below meth c Q D A KC KS nL h kc ks lv (pc + 3) st) : XW p l e R s m args below meth c Q D A KC KS nL h kc ks lv pc (va_rf r :: st) := by
  intro H locs cells slots ls hP hD hS hc hs hl
  cases r with
  | none => exact lv_ifnullN C.1.1 C.1.2 d ht (kt rfl H locs cells slots ls hP hD hS hc hs hl)
  | some x => exact lv_ifnull C.1.1 C.1.2 d (kf x rfl H locs cells slots ls hP hD hS hc hs hl)
theorem xr_ifnonnull (C : XC p R s m args c D E A nL own cc KC KS) {r : Option Nat} {off : Int} {tgt : Nat} (d : decode cc pc = .ok (.ifnonnull off, 3)) (ht : (pc : Int) + off = (tgt : Int)) (kt : ∀ a, r = some a → XW p l e R s m args below meth c Q D A KC KS nL h kc ks lv tgt st) (kf : r = none → XW p l e R s m args below meth c Q D A KC KS nL h kc ks lv (pc + 3) st) : XW p l e R s m args below meth c Q D A KC KS nL h kc ks lv pc (va_rf r :: st) := by
  intro H locs cells slots ls hP hD hS hc hs hl
  cases r with
  | none => exact lv_ifnonnullN C.1.1 C.1.2 d (kf rfl H locs cells slots ls hP hD hS hc hs hl)
  | some x => exact lv_ifnonnull C.1.1 C.1.2 d ht (kt x rfl H locs cells slots ls hP hD hS hc hs hl)
theorem xr_tableIn (C : XC p R s m args c D E A nL own cc KC KS) {dflt lo hi : Int} {offs : Array Int} {len : Nat} {x : Int32} {off : Int} {tgt : Nat} (d : decode cc pc = .ok (.tableswitch dflt lo hi offs, len)) (h1 : ¬ x.toInt < lo) (h2 : ¬ hi < x.toInt) (ho : offs[(x.toInt - lo).toNat]? = some off) (ht : (pc : Int) + off = (tgt : Int)) (k : XW p l e R s m args below meth c Q D A KC KS nL h kc ks lv tgt st) : XW p l e R s m args below meth c Q D A KC KS nL h kc ks lv pc (.int x :: st) := fun H locs cells slots ls hP hD hS hc hs hl => lv_tableIn C.1.1 C.1.2 d h1 h2 ho ht (k H locs cells slots ls hP hD hS hc hs hl)
theorem xr_tableOut (C : XC p R s m args c D E A nL own cc KC KS) {dflt lo hi : Int} {offs : Array Int} {len : Nat} {x : Int32} {tgt : Nat} (d : decode cc pc = .ok (.tableswitch dflt lo hi offs, len)) (h1 : x.toInt < lo ∨ hi < x.toInt) (ht : (pc : Int) + dflt = (tgt : Int)) (k : XW p l e R s m args below meth c Q D A KC KS nL h kc ks lv tgt st) : XW p l e R s m args below meth c Q D A KC KS nL h kc ks lv pc (.int x :: st) := fun H locs cells slots ls hP hD hS hc hs hl => lv_tableOut C.1.1 C.1.2 d h1 ht (k H locs cells slots ls hP hD hS hc hs hl)
theorem xr_lookup (C : XC p R s m args c D E A nL own cc KC KS) {dflt : Int} {ps : Array (Int × Int)} {len : Nat} {x : Int32} {off : Int} {tgt : Nat} (d : decode cc pc = .ok (.lookupswitch dflt ps, len)) (hp : (ps.toList.zip (ps.toList.drop 1)).all (fun (a, next) => a.1 < next.1) = true) (ho : Op.lookupswitch.offset ps.toList dflt x.toInt = off) (ht : (pc : Int) + off = (tgt : Int)) (k : XW p l e R s m args below meth c Q D A KC KS nL h kc ks lv tgt st) : XW p l e R s m args below meth c Q D A KC KS nL h kc ks lv pc (.int x :: st) := fun H locs cells slots ls hP hD hS hc hs hl => lv_lookup C.1.1 C.1.2 d hp ho ht (k H locs cells slots ls hP hD hS hc hs hl)
theorem xr_sub {lv' : List (Nat × Value)} (js : List Nat) (hj : lv_pick lv js = lv') (k : XW p l e R s m args below meth c Q D A KC KS nL h kc ks lv' pc st) : XW p l e R s m args below meth c Q D A KC KS nL h kc ks lv pc st := fun H locs cells slots ls hP hD hS hc hs hl => k H locs cells slots ls hP hD hS hc hs (lv_sub hl js hj)
end XR
section XH
variable {p : Program} {l : Launch} {e : Env} {R : Room} {s : State} {m : MethodId} {args : Array Value} {below : List Frame} {meth : Method} {c : Code} {Q : State → Prop} {D : va_G} {E : Ev} {A : Nat → Prop} {KC KS nL : Nat} {own : String} {cc : ByteArray} {h : Hp} {kc ks : Nat} {lv : List (Nat × Value)} {pc : Nat} {st : List Value}
/-- a field is read -/
theorem xr_get (C : XC p R s m args c D E A nL own cc KC KS) {Cn : String} {T : u_T} {N ci idx a : Nat} {fs : List Value} {v : Value} (k : Nat) (ha : xh_at h a (.inr (ci, fs))) (hv : fs[k]? = some v) (hc : vwCl[ci]? = some (Cn, T, N)) (hin : ∀ w ∈ u_ws Cn T N, w ∈ xw_tbl) (hk : k < N) (hw : Cond.fieldLink own idx (T k).1 (T k).2.1 (T k).2.2.1 ∈ xw_tbl) (d : decode cc pc = .ok (.getfield idx, 3))
    (kk : XW p l e R s m args below meth c Q D A KC KS nL h kc ks lv (pc + 3) (v :: st)) : XW p l e R s m args below meth c Q D A KC KS nL h kc ks lv pc (.ref a :: st) := by
  intro H locs cells slots ls hP hD hS hc1 hs hl
  obtain ⟨q, hq⟩ := xh_get ha
  exact va_get C.1.1 C.1.2 C.2.2.1 hin C.2.1.2 C.2.2.2.1 hP q hq hc k hk (C.2.2.1 _ hw) (fun _ h9 => h9) hv d (kk H locs cells slots ls hP hD hS hc1 hs hl)
/-- a field is written -/
theorem xr_put (C : XC p R s m args c D E A nL own cc KC KS) {Cn : String} {T : u_T} {N ci idx a : Nat} {fs : List Value} {v : Value} (k : Nat) (ty : FieldType) (ty0 : Nat → FieldType) (hty : ∀ k, k < N → parseFieldDescriptor (T k).2.2.1 = some (ty0 k)) (hnm : ∀ a, a < N → ∀ b, b < N → a ≠ b → (T a).2.1 ≠ (T b).2.1) (ha : xh_at h a (.inr (ci, fs))) (hlen : k < fs.length) (hc : vwCl[ci]? = some (Cn, T, N)) (hin : ∀ w ∈ u_ws Cn T N, w ∈ xw_tbl) (hk : k < N) (hw : Cond.fieldLink own idx (T k).1 (T k).2.1 (T k).2.2.1 ∈ xw_tbl) (hfin : (T k).2.2.2 = false) (hd : parseFieldDescriptor (T k).2.2.1 = some ty) (hn : narrow ty v = v) (hfit : fits ty v = true) {h1 : Hp} (hh : h1 = xh_set h a (.inr (ci, fs.set k v))) (d : decode cc pc = .ok (.putfield idx, 3))
    (kk : XW p l e R s m args below meth c Q D A KC KS nL h1 kc ks lv (pc + 3) st) : XW p l e R s m args below meth c Q D A KC KS nL h kc ks lv pc (v :: .ref a :: st) := by
  subst hh
  intro H locs cells slots ls hP hD hS hc1 hs hl
  obtain ⟨q, hq⟩ := xh_get ha
  refine va_put C.1.1 C.1.2 C.2.2.1 hin ty0 hty hnm C.2.1.2 C.2.2.2.1 hP hD hS q hq hc k hk (C.2.2.1 _ hw) (fun _ h9 => h9) hfin hd hn hfit hlen d (fun H1 locs1 hP1 hD1 hS1 => ?_)
  rw [xh_put hD ha hq] at hP1 hD1
  exact kk H1 locs1 cells slots ls hP1 hD1 hS1 hc1 hs hl
/-- a final field is written by its constructor -/
theorem xr_putF (C : XC p R s m args c D E A nL own cc KC KS) {Cn : String} {T : u_T} {N ci idx a : Nat} {fs : List Value} {v : Value} (k : Nat) (ty : FieldType) (ty0 : Nat → FieldType) (hty : ∀ k, k < N → parseFieldDescriptor (T k).2.2.1 = some (ty0 k)) (hnm : ∀ a, a < N → ∀ b, b < N → a ≠ b → (T a).2.1 ≠ (T b).2.1) (ha : xh_at h a (.inr (ci, fs))) (hlen : k < fs.length) (hc : vwCl[ci]? = some (Cn, T, N)) (hin : ∀ w ∈ u_ws Cn T N, w ∈ xw_tbl) (hk : k < N) (hw : Cond.fieldLink own idx (T k).1 (T k).2.1 (T k).2.2.1 ∈ xw_tbl) (hfin : (T k).2.2.2 = true) (hin2 : meth.name = "<init>") (hdecl : (T k).1 = own) (hd : parseFieldDescriptor (T k).2.2.1 = some ty) (hn : narrow ty v = v) (hfit : fits ty v = true) {h1 : Hp} (hh : h1 = xh_set h a (.inr (ci, fs.set k v))) (d : decode cc pc = .ok (.putfield idx, 3))
    (kk : XW p l e R s m args below meth c Q D A KC KS nL h1 kc ks lv (pc + 3) st) : XW p l e R s m args below meth c Q D A KC KS nL h kc ks lv pc (v :: .ref a :: st) := by
  subst hh
  intro H locs cells slots ls hP hD hS hc1 hs hl
  obtain ⟨q, hq⟩ := xh_get ha
  refine va_putF C.1.1 C.1.2 C.2.2.1 hin ty0 hty hnm C.2.1.2 C.2.2.2.1 hP hD hS q hq hc k hk (C.2.2.1 _ hw) (fun _ h9 => h9) hfin hin2 hdecl hd hn hfit hlen d (fun H1 locs1 hP1 hD1 hS1 => ?_)
  rw [xh_put hD ha hq] at hP1 hD1
  exact kk H1 locs1 cells slots ls hP1 hD1 hS1 hc1 hs hl
/-- a constant static -/
theorem xr_gets (C : XC p R s m args c D E A nL own cc KC KS) {idx : Nat} (i : Nat) {q : String × String × String} (hq : xs_st[i]? = some q) (hw : Cond.fieldLink own idx q.1 q.2.1 q.2.2 ∈ xw_tbl) (d : decode cc pc = .ok (.getstatic idx, 3))
    (kk : XW p l e R s m args below meth c Q D A KC KS nL h kc ks lv (pc + 3) (.ref (E.2.1 i) :: st)) : XW p l e R s m args below meth c Q D A KC KS nL h kc ks lv pc st := by
  intro H locs cells slots ls hP hD hS hc1 hs hl
  exact va_gets C.1.1 C.1.2 (C.2.2.2.2.1.2.1 i q hq) hS C.2.1.2 (C.2.2.1 _ hw) (fun _ h9 => h9) d (kk H locs cells slots ls hP hD hS hc1 hs hl)
/-- a table that is a constant static -/
theorem xr_roi (C : XC p R s m args c D E A nL own cc KC KS) (i : Nat) {b N : Nat} {f : Nat → Value} (hq : xs_ro[i]? = some (b, .int, N, f)) {j : Int32} (hin : vp_in j N) {v : Value} (hv : f j.toNatClampNeg = v) (d : decode cc pc = .ok (.iaload, 1))
    (kk : XW p l e R s m args below meth c Q D A KC KS nL h kc ks lv (pc + 1) (v :: st)) : XW p l e R s m args below meth c Q D A KC KS nL h kc ks lv pc (.int j :: .ref (E.2.1 b) :: st) := by
  intro H locs cells slots ls hP hD hS hc1 hs hl
  exact va_ti C.1.1 C.1.2 (C.2.2.2.2.1.2.2.1 i _ hq) hS hin hv d (kk H locs cells slots ls hP hD hS hc1 hs hl)
theorem xr_rolen (C : XC p R s m args c D E A nL own cc KC KS) (i : Nat) {b N : Nat} {ty : FieldType} {f : Nat → Value} (hq : xs_ro[i]? = some (b, ty, N, f)) {v : Int32} (hv : Int32.ofNat N = v) (d : decode cc pc = .ok (.arraylength, 1))
    (kk : XW p l e R s m args below meth c Q D A KC KS nL h kc ks lv (pc + 1) (.int v :: st)) : XW p l e R s m args below meth c Q D A KC KS nL h kc ks lv pc (.ref (E.2.1 b) :: st) := by
  intro H locs cells slots ls hP hD hS hc1 hs hl
  exact va_tlen C.1.1 C.1.2 (C.2.2.2.2.1.2.2.1 i _ hq) hS hv d (kk H locs cells slots ls hP hD hS hc1 hs hl)
/-- arrays -/
theorem xr_alen (C : XC p R s m args c D E A nL own cc KC KS) (t : Nat) {ty : FieldType} (ht : xs_ty[t]? = some ty) {a : Nat} {x : vp_A} (ha : xh_at h a (.inl (E.1 t, x))) {v : Int32} (hv : Int32.ofNat x.1 = v) (d : decode cc pc = .ok (.arraylength, 1))
    (kk : XW p l e R s m args below meth c Q D A KC KS nL h kc ks lv (pc + 1) (.int v :: st)) : XW p l e R s m args below meth c Q D A KC KS nL h kc ks lv pc (.ref a :: st) := by
  intro H locs cells slots ls hP hD hS hc1 hs hl
  obtain ⟨q, hq⟩ := xh_get ha
  exact va_alen C.1.1 C.1.2 C.2.2.2.1 hP q t hq (xe_ty_at t ht) hv d (kk H locs cells slots ls hP hD hS hc1 hs hl)
theorem xr_iald (C : XC p R s m args c D E A nL own cc KC KS) (t : Nat) (ht : xs_ty[t]? = some .int) {a n : Nat} {f : Nat → Int32} (ha : xh_at h a (.inl (E.1 t, n, .inl f))) {i x : Int32} (hin : vp_in i n) (hv : f i.toNatClampNeg = x) (d : decode cc pc = .ok (.iaload, 1))
    (kk : XW p l e R s m args below meth c Q D A KC KS nL h kc ks lv (pc + 1) (.int x :: st)) : XW p l e R s m args below meth c Q D A KC KS nL h kc ks lv pc (.int i :: .ref a :: st) := by
  subst hv
  intro H locs cells slots ls hP hD hS hc1 hs hl
  obtain ⟨q, hq⟩ := xh_get ha
  exact va_iald C.1.1 C.1.2 C.2.2.2.1 hP q t hq (xe_ty_at t ht) hin d (kk H locs cells slots ls hP hD hS hc1 hs hl)
theorem xr_zald (C : XC p R s m args c D E A nL own cc KC KS) (t : Nat) (ht : xs_ty[t]? = some .boolean) {a n : Nat} {f : Nat → Int32} (ha : xh_at h a (.inl (E.1 t, n, .inl f))) {i x : Int32} (hin : vp_in i n) (hv : f i.toNatClampNeg = x) (d : decode cc pc = .ok (.baload, 1))
    (kk : XW p l e R s m args below meth c Q D A KC KS nL h kc ks lv (pc + 1) (.int x :: st)) : XW p l e R s m args below meth c Q D A KC KS nL h kc ks lv pc (.int i :: .ref a :: st) := by
  subst hv
  intro H locs cells slots ls hP hD hS hc1 hs hl
  obtain ⟨q, hq⟩ := xh_get ha
  exact va_zald C.1.1 C.1.2 C.2.2.2.1 hP q t hq (xe_ty_at t ht) hin d (kk H locs cells slots ls hP hD hS hc1 hs hl)
theorem xr_lald (C : XC p R s m args c D E A nL own cc KC KS) (t : Nat) (ht : xs_ty[t]? = some .long) {a n : Nat} {f : Nat → Int64} (ha : xh_at h a (.inl (E.1 t, n, .inr (.inl f)))) {i : Int32} {x : Int64} (hin : vp_in i n) (hv : f i.toNatClampNeg = x) (d : decode cc pc = .ok (.laload, 1))
    (kk : XW p l e R s m args below meth c Q D A KC KS nL h kc ks lv (pc + 1) (.long x :: st)) : XW p l e R s m args below meth c Q D A KC KS nL h kc ks lv pc (.int i :: .ref a :: st) := by
  subst hv
  intro H locs cells slots ls hP hD hS hc1 hs hl
  obtain ⟨q, hq⟩ := xh_get ha
  exact va_lald C.1.1 C.1.2 C.2.2.2.1 hP q t hq (xe_ty_at t ht) hin d (kk H locs cells slots ls hP hD hS hc1 hs hl)
theorem xr_aald (C : XC p R s m args c D E A nL own cc KC KS) (t : Nat) {Cn : String} (ht : xs_ty[t]? = some (.object Cn)) {a n : Nat} {f : Nat → Option Nat} (ha : xh_at h a (.inl (E.1 t, n, .inr (.inr (.inr (.inr f)))))) {i : Int32} {x : Option Nat} (hin : vp_in i n) (hv : f i.toNatClampNeg = x) (d : decode cc pc = .ok (.aaload, 1))
    (kk : XW p l e R s m args below meth c Q D A KC KS nL h kc ks lv (pc + 1) (va_rf x :: st)) : XW p l e R s m args below meth c Q D A KC KS nL h kc ks lv pc (.int i :: .ref a :: st) := by
  subst hv
  intro H locs cells slots ls hP hD hS hc1 hs hl
  obtain ⟨q, hq⟩ := xh_get ha
  exact va_aldq C.1.1 C.1.2 C.2.2.2.1 hP q t hq (xe_ty_at t ht) hin d (kk H locs cells slots ls hP hD hS hc1 hs hl)
theorem xr_iast (C : XC p R s m args c D E A nL own cc KC KS) (t : Nat) (ht : xs_ty[t]? = some .int) {a n : Nat} {f : Nat → Int32} (ha : xh_at h a (.inl (E.1 t, n, .inl f))) {i x : Int32} (hin : vp_in i n) {h1 : Hp} (hh : h1 = xh_set h a (.inl (E.1 t, n, .inl (upd f i.toNatClampNeg x)))) (d : decode cc pc = .ok (.iastore, 1))
    (kk : XW p l e R s m args below meth c Q D A KC KS nL h1 kc ks lv (pc + 1) st) : XW p l e R s m args below meth c Q D A KC KS nL h kc ks lv pc (.int x :: .int i :: .ref a :: st) := by
  subst hh
  intro H locs cells slots ls hP hD hS hc1 hs hl
  obtain ⟨q, hq⟩ := xh_get ha
  refine va_iast C.1.1 C.1.2 C.2.2.2.1 hP hD hS q t hq (xe_ty_at t ht) hin d (fun H1 locs1 hP1 hD1 hS1 => ?_)
  rw [xh_put hD ha hq] at hP1 hD1
  exact kk H1 locs1 cells slots ls hP1 hD1 hS1 hc1 hs hl
theorem xr_zast (C : XC p R s m args c D E A nL own cc KC KS) (t : Nat) (ht : xs_ty[t]? = some .boolean) {a n : Nat} {f : Nat → Int32} (ha : xh_at h a (.inl (E.1 t, n, .inl f))) {i x : Int32} (hin : vp_in i n) {h1 : Hp} (hh : h1 = xh_set h a (.inl (E.1 t, n, .inl (upd f i.toNatClampNeg (vp_nar .boolean x))))) (d : decode cc pc = .ok (.bastore, 1))
    (kk : XW p l e R s m args below meth c Q D A KC KS nL h1 kc ks lv (pc + 1) st) : XW p l e R s m args below meth c Q D A KC KS nL h kc ks lv pc (.int x :: .int i :: .ref a :: st) := by
  subst hh
  intro H locs cells slots ls hP hD hS hc1 hs hl
  obtain ⟨q, hq⟩ := xh_get ha
  refine va_zast C.1.1 C.1.2 C.2.2.2.1 hP hD hS q t hq (xe_ty_at t ht) hin d (fun H1 locs1 hP1 hD1 hS1 => ?_)
  rw [xh_put hD ha hq] at hP1 hD1
  exact kk H1 locs1 cells slots ls hP1 hD1 hS1 hc1 hs hl
theorem xr_last (C : XC p R s m args c D E A nL own cc KC KS) (t : Nat) (ht : xs_ty[t]? = some .long) {a n : Nat} {f : Nat → Int64} (ha : xh_at h a (.inl (E.1 t, n, .inr (.inl f)))) {i : Int32} {x : Int64} (hin : vp_in i n) {h1 : Hp} (hh : h1 = xh_set h a (.inl (E.1 t, n, .inr (.inl (vp_updL f i.toNatClampNeg x))))) (d : decode cc pc = .ok (.lastore, 1))
    (kk : XW p l e R s m args below meth c Q D A KC KS nL h1 kc ks lv (pc + 1) st) : XW p l e R s m args below meth c Q D A KC KS nL h kc ks lv pc (.long x :: .int i :: .ref a :: st) := by
  subst hh
  intro H locs cells slots ls hP hD hS hc1 hs hl
  obtain ⟨q, hq⟩ := xh_get ha
  refine va_last C.1.1 C.1.2 C.2.2.2.1 hP hD hS q t hq (xe_ty_at t ht) hin d (fun H1 locs1 hP1 hD1 hS1 => ?_)
  rw [xh_put hD ha hq] at hP1 hD1
  exact kk H1 locs1 cells slots ls hP1 hD1 hS1 hc1 hs hl
end XH

section XM
variable {p : Program} {l : Launch} {e : Env} {R : Room} {s : State} {m : MethodId} {args : Array Value} {below : List Frame} {meth : Method} {c : Code} {Q : State → Prop} {D : va_G} {E : Ev} {A : Nat → Prop} {KC KS nL : Nat} {own : String} {cc : ByteArray} {h : Hp} {kc ks : Nat} {lv : List (Nat × Value)} {pc : Nat} {st : List Value}
theorem xg_in {ws : List Cond} (h : ∀ w ∈ ws, w ∈ xw_tbl) : GoodIn xw_tbl ws := fun w hw => ⟨h w hw, xw_good w (h w hw)⟩
theorem xg_code {y : MethodName} {bytes : ByteArray} {maxL : Nat} {ret : Option FieldType} (h5 : Cond.code y bytes maxL ret ∈ xw_tbl) : ∀ w ∈ (Cond.code y bytes maxL ret :: xw_tbl), w ∈ xw_tbl := by
  intro w hw
  rcases List.mem_cons.mp hw with rfl | hw
  · exact h5
  · exact hw
theorem xg_V {y : MethodName} {bytes : ByteArray} {maxL idx : Nat} {ret : Option FieldType} {own Cn : String} (h1 : Cond.methodLink own idx y ∈ xw_tbl) (h2 : Cond.instanceMethod y ∈ xw_tbl) (h3 : Cond.selects Cn y y ∈ xw_tbl) (h4 : Cond.initialized Cn ∈ xw_tbl) (h5 : Cond.code y bytes maxL ret ∈ xw_tbl) : GoodIn xw_tbl (wsV own idx Cn y (Cond.code y bytes maxL ret :: xw_tbl)) := by
  refine xg_in (fun w hw => ?_)
  rcases List.mem_append.mp hw with hw | hw
  · rcases List.mem_cons.mp hw with rfl | hw
    · exact h1
    rcases List.mem_cons.mp hw with rfl | hw
    · exact h2
    rcases List.mem_cons.mp hw with rfl | hw
    · exact h3
    rcases List.mem_cons.mp hw with rfl | hw
    · exact h4
    exact absurd hw List.not_mem_nil
  · exact xg_code h5 w hw
theorem xg_S {y : MethodName} {bytes : ByteArray} {maxL idx : Nat} {ret : Option FieldType} {own : String} (h1 : Cond.methodLink own idx y ∈ xw_tbl) (h2 : Cond.static y ∈ xw_tbl) (h4 : Cond.initialized y.cls ∈ xw_tbl) (h5 : Cond.code y bytes maxL ret ∈ xw_tbl) : GoodIn xw_tbl (va_wsS own idx y (Cond.code y bytes maxL ret :: xw_tbl)) := by
  refine xg_in (fun w hw => ?_)
  rcases List.mem_append.mp hw with hw | hw
  · rcases List.mem_cons.mp hw with rfl | hw
    · exact h1
    rcases List.mem_cons.mp hw with rfl | hw
    · exact h2
    rcases List.mem_cons.mp hw with rfl | hw
    · exact h4
    exact absurd hw List.not_mem_nil
  · exact xg_code h5 w hw
theorem xa_free {H0 H : Heap} {locs : List Loc} (hD : va_D A (va_pl h.1 h.2)) (hS : va_S A H0 H locs) (hA : ∀ q, H0.size ≤ q → A q) : ∀ q, XA h H.size q → A q := by
  intro q hq
  rcases hq with ⟨k, x, hk⟩ | hq
  · exact hD.2 k _ hk
  · exact hA q (Nat.le_trans hS.1 hq)
theorem xp_blind {As : List Value} {sz : Nat} : FrameBlind (va_Pc As (XPre D E h sz)) := by
  intro a U g mk q
  obtain ⟨q0, q1, qP, qK, qD, qS⟩ := q
  exact ⟨q0, q1, qP, va_K.moved (u := U) (U := U.calling g mk a) (Vm.Alike.refl U.vm) qK, qD, xe_S.same (u := U) (U := U.calling g mk a) rfl xs_nw_on qS⟩
theorem xp_pre (C : XC p R s m args c D E A nL own cc KC KS) {H : Heap} {locs : List Loc} {As : List Value} (hP : va_P D vwCl (va_pl h.1 h.2) H) (hD : va_D A (va_pl h.1 h.2)) (hS : va_S A s.heap H locs) : ∀ U : State, U.heap = H → s.WarmedH U.vm → va_Pc As (XPre D E h H.size) As.toArray U := by
  intro U hU hW
  refine ⟨rfl, by rw [hU], by rw [hU]; exact hP, va_K.moved hW.alike C.2.2.2.1, hD.weaken (fun _ _ _ _ => trivial), ?_⟩
  rw [hU]
  exact ((C.2.2.2.2.1.2.kept (fun a h1 h2 => hS.2.1 a h1 h2)).warm hW (fun w hw hz => xs_nw_warm w hw hW hz)).narrow (xa_free hD hS C.2.2.2.2.1.1)
theorem xp_recv (C : XC p R s m args c D E A nL own cc KC KS) {H : Heap} {b ci : Nat} {fs : List Value} {r : vw_C} (hP : va_P D vwCl (va_pl h.1 h.2) H) (hb : xh_at h b (.inr (ci, fs))) (hc : vwCl[ci]? = some r) : ∃ cell : Cell, H[b]? = some cell ∧ cell.vm.isStatics = false ∧ s.vm.findClass r.1 = some cell.cls := by
  obtain ⟨q, hq⟩ := xh_get hb
  exact va_recv C.2.2.2.1 hP hc hq
def XMet (l : Launch) (y : MethodName) (bytes : ByteArray) (maxL : Nat) (ret : Option FieldType) (F Lc mc ms : Nat) (D : va_G) (E : Ev) (h : Hp) (As : List Value) (Qf : (Nat → Prop) → Array Value → State → Outcome → State → Prop) : Prop :=
  ∀ sz, Met l y (Cond.code y bytes maxL ret :: xw_tbl) { frames := F, cells := mc, slots := ms, locals := Lc } (va_Pc As (XPre D E h sz)) (Qf (XA h sz)) mc ms (XA h sz)

theorem xr_cVi (C : XC p R s m args c D E A nL own cc KC KS) {y : MethodName} {bytes : ByteArray} {maxL idx F Lc mc ms kc1 ks1 n : Nat} {ret : Option FieldType} {As : List Value} {b : Nat} {post : Int32 → Hp → Prop} {stk : List Value} (hM : XMet l y bytes maxL ret F Lc mc ms D E h (.ref b :: As) (fun A => va_Qi post (XPost D A) A)) {Cn : String} {T : u_T} {N ci : Nat} {fs : List Value} (hbo : xh_at h b (.inr (ci, fs))) (hcl : vwCl[ci]? = some (Cn, T, N)) (h1 : Cond.methodLink own idx y ∈ xw_tbl) (h2 : Cond.instanceMethod y ∈ xw_tbl) (h3 : Cond.selects Cn y y ∈ xw_tbl) (h4 : Cond.initialized Cn ∈ xw_tbl) (h5 : Cond.code y bytes maxL ret ∈ xw_tbl) (hd : y.cls = Cn ∧ y.cls ≠ "java/lang/invoke/MethodHandle" ∧ y.cls ≠ "java/lang/invoke/VarHandle" ∧ (parseMethodDescriptor y.desc).map (fun d => d.parameters.length) = some n) (hn : As.length = n) (hR : F + 1 ≤ R.frames ∧ 8 + (maxL + 11) + Lc ≤ R.locals) (hkc : kc = mc + kc1) (hks : ks = ms + ks1) (hst : stk = As.reverse ++ .ref b :: st) (hroom : (st.map fun v => v.category).sum ≤ 8) (d : decode cc pc = .ok (.invokevirtual idx, 3))
    (kk : ∀ (r : Int32) (h1 : Hp), post r h1 → XW p l e R s m args below meth c Q D A KC KS nL h1 kc1 ks1 lv (pc + 3) (.int r :: st)) : XW p l e R s m args below meth c Q D A KC KS nL h kc ks lv pc stk := by
  intro H locs cells slots ls hP hD hS hc1 hs1 hl
  subst hst
  have hFc := xa_free hD hS C.2.2.2.2.1.1
  have hRc := C.2.2.2.2.2
  refine va_calli (va_runV (As := As) (rest := st) ⟨C.1.1, C.1.2, C.2.1.1, C.2.1.2, C.2.2.1⟩ (hM H.size) (cwV n C.2.2.1 (xg_V h1 h2 h3 h4 h5) rfl rfl rfl hd hR) ⟨xp_blind, xp_recv C hP hbo hcl, xp_pre C hP hD hS⟩ rfl hn hl.1 rfl (lv_room hroom) d ⟨by omega, by omega⟩) hS (fun q _ z => hFc q z) hFc (fun r u t H1 locs1 ht hvm hw hB hz1 hk1 hS1 => ?_)
  obtain ⟨hP1, hD1⟩ := hB
  rw [ht] at hP1
  exact kk r u hw H1 locs1 _ _ ls hP1 (hD1.weaken (fun k q _ z => hFc q.1 z)) hS1 (by omega) (by omega) hl
theorem xr_cVl (C : XC p R s m args c D E A nL own cc KC KS) {y : MethodName} {bytes : ByteArray} {maxL idx F Lc mc ms kc1 ks1 n : Nat} {ret : Option FieldType} {As : List Value} {b : Nat} {post : Int64 → Hp → Prop} {stk : List Value} (hM : XMet l y bytes maxL ret F Lc mc ms D E h (.ref b :: As) (fun A => va_Ql post (XPost D A) A)) {Cn : String} {T : u_T} {N ci : Nat} {fs : List Value} (hbo : xh_at h b (.inr (ci, fs))) (hcl : vwCl[ci]? = some (Cn, T, N)) (h1 : Cond.methodLink own idx y ∈ xw_tbl) (h2 : Cond.instanceMethod y ∈ xw_tbl) (h3 : Cond.selects Cn y y ∈ xw_tbl) (h4 : Cond.initialized Cn ∈ xw_tbl) (h5 : Cond.code y bytes maxL ret ∈ xw_tbl) (hd : y.cls = Cn ∧ y.cls ≠ "java/lang/invoke/MethodHandle" ∧ y.cls ≠ "java/lang/invoke/VarHandle" ∧ (parseMethodDescriptor y.desc).map (fun d => d.parameters.length) = some n) (hn : As.length = n) (hR : F + 1 ≤ R.frames ∧ 8 + (maxL + 11) + Lc ≤ R.locals) (hkc : kc = mc + kc1) (hks : ks = ms + ks1) (hst : stk = As.reverse ++ .ref b :: st) (hroom : (st.map fun v => v.category).sum ≤ 8) (d : decode cc pc = .ok (.invokevirtual idx, 3))
    (kk : ∀ (r : Int64) (h1 : Hp), post r h1 → XW p l e R s m args below meth c Q D A KC KS nL h1 kc1 ks1 lv (pc + 3) (.long r :: st)) : XW p l e R s m args below meth c Q D A KC KS nL h kc ks lv pc stk := by
  intro H locs cells slots ls hP hD hS hc1 hs1 hl
  subst hst
  have hFc := xa_free hD hS C.2.2.2.2.1.1
  have hRc := C.2.2.2.2.2
  refine va_calll (va_runV (As := As) (rest := st) ⟨C.1.1, C.1.2, C.2.1.1, C.2.1.2, C.2.2.1⟩ (hM H.size) (cwV n C.2.2.1 (xg_V h1 h2 h3 h4 h5) rfl rfl rfl hd hR) ⟨xp_blind, xp_recv C hP hbo hcl, xp_pre C hP hD hS⟩ rfl hn hl.1 rfl (lv_room hroom) d ⟨by omega, by omega⟩) hS (fun q _ z => hFc q z) hFc (fun r u t H1 locs1 ht hvm hw hB hz1 hk1 hS1 => ?_)
  obtain ⟨hP1, hD1⟩ := hB
  rw [ht] at hP1
  exact kk r u hw H1 locs1 _ _ ls hP1 (hD1.weaken (fun k q _ z => hFc q.1 z)) hS1 (by omega) (by omega) hl
theorem xr_cVq (C : XC p R s m args c D E A nL own cc KC KS) {y : MethodName} {bytes : ByteArray} {maxL idx F Lc mc ms kc1 ks1 n : Nat} {ret : Option FieldType} {As : List Value} {b : Nat} {post : Option Nat → Hp → Prop} {stk : List Value} (hM : XMet l y bytes maxL ret F Lc mc ms D E h (.ref b :: As) (fun A => va_Qq post (XPost D A) A)) {Cn : String} {T : u_T} {N ci : Nat} {fs : List Value} (hbo : xh_at h b (.inr (ci, fs))) (hcl : vwCl[ci]? = some (Cn, T, N)) (h1 : Cond.methodLink own idx y ∈ xw_tbl) (h2 : Cond.instanceMethod y ∈ xw_tbl) (h3 : Cond.selects Cn y y ∈ xw_tbl) (h4 : Cond.initialized Cn ∈ xw_tbl) (h5 : Cond.code y bytes maxL ret ∈ xw_tbl) (hd : y.cls = Cn ∧ y.cls ≠ "java/lang/invoke/MethodHandle" ∧ y.cls ≠ "java/lang/invoke/VarHandle" ∧ (parseMethodDescriptor y.desc).map (fun d => d.parameters.length) = some n) (hn : As.length = n) (hR : F + 1 ≤ R.frames ∧ 8 + (maxL + 11) + Lc ≤ R.locals) (hkc : kc = mc + kc1) (hks : ks = ms + ks1) (hst : stk = As.reverse ++ .ref b :: st) (hroom : (st.map fun v => v.category).sum ≤ 8) (d : decode cc pc = .ok (.invokevirtual idx, 3))
    (kk : ∀ (r : Option Nat) (h1 : Hp), post r h1 → XW p l e R s m args below meth c Q D A KC KS nL h1 kc1 ks1 lv (pc + 3) (va_rf r :: st)) : XW p l e R s m args below meth c Q D A KC KS nL h kc ks lv pc stk := by
  intro H locs cells slots ls hP hD hS hc1 hs1 hl
  subst hst
  have hFc := xa_free hD hS C.2.2.2.2.1.1
  have hRc := C.2.2.2.2.2
  refine va_callq (va_runV (As := As) (rest := st) ⟨C.1.1, C.1.2, C.2.1.1, C.2.1.2, C.2.2.1⟩ (hM H.size) (cwV n C.2.2.1 (xg_V h1 h2 h3 h4 h5) rfl rfl rfl hd hR) ⟨xp_blind, xp_recv C hP hbo hcl, xp_pre C hP hD hS⟩ rfl hn hl.1 rfl (lv_room hroom) d ⟨by omega, by omega⟩) hS (fun q _ z => hFc q z) hFc (fun r u t H1 locs1 ht hvm hw hB hz1 hk1 hS1 => ?_)
  obtain ⟨hP1, hD1⟩ := hB
  rw [ht] at hP1
  exact kk r u hw H1 locs1 _ _ ls hP1 (hD1.weaken (fun k q _ z => hFc q.1 z)) hS1 (by omega) (by omega) hl
theorem xr_cVv (C : XC p R s m args c D E A nL own cc KC KS) {y : MethodName} {bytes : ByteArray} {maxL idx F Lc mc ms kc1 ks1 n : Nat} {ret : Option FieldType} {As : List Value} {b : Nat} {post : Hp → Prop} {stk : List Value} (hM : XMet l y bytes maxL ret F Lc mc ms D E h (.ref b :: As) (fun A => va_Qv post (XPost D A) A)) {Cn : String} {T : u_T} {N ci : Nat} {fs : List Value} (hbo : xh_at h b (.inr (ci, fs))) (hcl : vwCl[ci]? = some (Cn, T, N)) (h1 : Cond.methodLink own idx y ∈ xw_tbl) (h2 : Cond.instanceMethod y ∈ xw_tbl) (h3 : Cond.selects Cn y y ∈ xw_tbl) (h4 : Cond.initialized Cn ∈ xw_tbl) (h5 : Cond.code y bytes maxL ret ∈ xw_tbl) (hd : y.cls = Cn ∧ y.cls ≠ "java/lang/invoke/MethodHandle" ∧ y.cls ≠ "java/lang/invoke/VarHandle" ∧ (parseMethodDescriptor y.desc).map (fun d => d.parameters.length) = some n) (hn : As.length = n) (hR : F + 1 ≤ R.frames ∧ 8 + (maxL + 11) + Lc ≤ R.locals) (hkc : kc = mc + kc1) (hks : ks = ms + ks1) (hst : stk = As.reverse ++ .ref b :: st) (hroom : (st.map fun v => v.category).sum ≤ 8) (d : decode cc pc = .ok (.invokevirtual idx, 3))
    (kk : ∀ (h1 : Hp), post h1 → XW p l e R s m args below meth c Q D A KC KS nL h1 kc1 ks1 lv (pc + 3) (st)) : XW p l e R s m args below meth c Q D A KC KS nL h kc ks lv pc stk := by
  intro H locs cells slots ls hP hD hS hc1 hs1 hl
  subst hst
  have hFc := xa_free hD hS C.2.2.2.2.1.1
  have hRc := C.2.2.2.2.2
  refine va_callv (va_runV (As := As) (rest := st) ⟨C.1.1, C.1.2, C.2.1.1, C.2.1.2, C.2.2.1⟩ (hM H.size) (cwV n C.2.2.1 (xg_V h1 h2 h3 h4 h5) rfl rfl rfl hd hR) ⟨xp_blind, xp_recv C hP hbo hcl, xp_pre C hP hD hS⟩ rfl hn hl.1 rfl (lv_room hroom) d ⟨by omega, by omega⟩) hS (fun q _ z => hFc q z) hFc (fun u t H1 locs1 ht hvm hw hB hz1 hk1 hS1 => ?_)
  obtain ⟨hP1, hD1⟩ := hB
  rw [ht] at hP1
  exact kk u hw H1 locs1 _ _ ls hP1 (hD1.weaken (fun k q _ z => hFc q.1 z)) hS1 (by omega) (by omega) hl
theorem xr_cSi (C : XC p R s m args c D E A nL own cc KC KS) {y : MethodName} {bytes : ByteArray} {maxL idx F Lc mc ms kc1 ks1 n : Nat} {ret : Option FieldType} {As : List Value} {post : Int32 → Hp → Prop} {stk : List Value} (hM : XMet l y bytes maxL ret F Lc mc ms D E h As (fun A => va_Qi post (XPost D A) A)) (h1 : Cond.methodLink own idx y ∈ xw_tbl) (h2 : Cond.static y ∈ xw_tbl) (h4 : Cond.initialized y.cls ∈ xw_tbl) (h5 : Cond.code y bytes maxL ret ∈ xw_tbl) (hd : y.cls ≠ "java/lang/invoke/MethodHandle" ∧ y.cls ≠ "java/lang/invoke/VarHandle" ∧ (parseMethodDescriptor y.desc).map (fun d => d.parameters.length) = some n) (hn : As.length = n) (hR : F + 1 ≤ R.frames ∧ 8 + (maxL + 11) + Lc ≤ R.locals) (hkc : kc = mc + kc1) (hks : ks = ms + ks1) (hst : stk = As.reverse ++ st) (hroom : (st.map fun v => v.category).sum ≤ 8) (d : decode cc pc = .ok (.invokestatic idx, 3))
    (kk : ∀ (r : Int32) (h1 : Hp), post r h1 → XW p l e R s m args below meth c Q D A KC KS nL h1 kc1 ks1 lv (pc + 3) (.int r :: st)) : XW p l e R s m args below meth c Q D A KC KS nL h kc ks lv pc stk := by
  intro H locs cells slots ls hP hD hS hc1 hs1 hl
  subst hst
  have hFc := xa_free hD hS C.2.2.2.2.1.1
  have hRc := C.2.2.2.2.2
  refine va_calli (va_runS (As := As) (rest := st) ⟨C.1.1, C.1.2, C.2.1.1, C.2.1.2, C.2.2.1⟩ (hM H.size) (va_cwS n C.2.2.1 (xg_S h1 h2 h4 h5) rfl rfl rfl hd hR) ⟨xp_blind, xp_pre C hP hD hS⟩ rfl hn hl.1 rfl (lv_room hroom) d ⟨by omega, by omega⟩) hS (fun q _ z => hFc q z) hFc (fun r u t H1 locs1 ht hvm hw hB hz1 hk1 hS1 => ?_)
  obtain ⟨hP1, hD1⟩ := hB
  rw [ht] at hP1
  exact kk r u hw H1 locs1 _ _ ls hP1 (hD1.weaken (fun k q _ z => hFc q.1 z)) hS1 (by omega) (by omega) hl
theorem xr_cSl (C : XC p R s m args c D E A nL own cc KC KS) {y : MethodName} {bytes : ByteArray} {maxL idx F Lc mc ms kc1 ks1 n : Nat} {ret : Option FieldType} {As : List Value} {post : Int64 → Hp → Prop} {stk : List Value} (hM : XMet l y bytes maxL ret F Lc mc ms D E h As (fun A => va_Ql post (XPost D A) A)) (h1 : Cond.methodLink own idx y ∈ xw_tbl) (h2 : Cond.static y ∈ xw_tbl) (h4 : Cond.initialized y.cls ∈ xw_tbl) (h5 : Cond.code y bytes maxL ret ∈ xw_tbl) (hd : y.cls ≠ "java/lang/invoke/MethodHandle" ∧ y.cls ≠ "java/lang/invoke/VarHandle" ∧ (parseMethodDescriptor y.desc).map (fun d => d.parameters.length) = some n) (hn : As.length = n) (hR : F + 1 ≤ R.frames ∧ 8 + (maxL + 11) + Lc ≤ R.locals) (hkc : kc = mc + kc1) (hks : ks = ms + ks1) (hst : stk = As.reverse ++ st) (hroom : (st.map fun v => v.category).sum ≤ 8) (d : decode cc pc = .ok (.invokestatic idx, 3))
    (kk : ∀ (r : Int64) (h1 : Hp), post r h1 → XW p l e R s m args below meth c Q D A KC KS nL h1 kc1 ks1 lv (pc + 3) (.long r :: st)) : XW p l e R s m args below meth c Q D A KC KS nL h kc ks lv pc stk := by
  intro H locs cells slots ls hP hD hS hc1 hs1 hl
  subst hst
  have hFc := xa_free hD hS C.2.2.2.2.1.1
  have hRc := C.2.2.2.2.2
  refine va_calll (va_runS (As := As) (rest := st) ⟨C.1.1, C.1.2, C.2.1.1, C.2.1.2, C.2.2.1⟩ (hM H.size) (va_cwS n C.2.2.1 (xg_S h1 h2 h4 h5) rfl rfl rfl hd hR) ⟨xp_blind, xp_pre C hP hD hS⟩ rfl hn hl.1 rfl (lv_room hroom) d ⟨by omega, by omega⟩) hS (fun q _ z => hFc q z) hFc (fun r u t H1 locs1 ht hvm hw hB hz1 hk1 hS1 => ?_)
  obtain ⟨hP1, hD1⟩ := hB
  rw [ht] at hP1
  exact kk r u hw H1 locs1 _ _ ls hP1 (hD1.weaken (fun k q _ z => hFc q.1 z)) hS1 (by omega) (by omega) hl
theorem xr_cSq (C : XC p R s m args c D E A nL own cc KC KS) {y : MethodName} {bytes : ByteArray} {maxL idx F Lc mc ms kc1 ks1 n : Nat} {ret : Option FieldType} {As : List Value} {post : Option Nat → Hp → Prop} {stk : List Value} (hM : XMet l y bytes maxL ret F Lc mc ms D E h As (fun A => va_Qq post (XPost D A) A)) (h1 : Cond.methodLink own idx y ∈ xw_tbl) (h2 : Cond.static y ∈ xw_tbl) (h4 : Cond.initialized y.cls ∈ xw_tbl) (h5 : Cond.code y bytes maxL ret ∈ xw_tbl) (hd : y.cls ≠ "java/lang/invoke/MethodHandle" ∧ y.cls ≠ "java/lang/invoke/VarHandle" ∧ (parseMethodDescriptor y.desc).map (fun d => d.parameters.length) = some n) (hn : As.length = n) (hR : F + 1 ≤ R.frames ∧ 8 + (maxL + 11) + Lc ≤ R.locals) (hkc : kc = mc + kc1) (hks : ks = ms + ks1) (hst : stk = As.reverse ++ st) (hroom : (st.map fun v => v.category).sum ≤ 8) (d : decode cc pc = .ok (.invokestatic idx, 3))
    (kk : ∀ (r : Option Nat) (h1 : Hp), post r h1 → XW p l e R s m args below meth c Q D A KC KS nL h1 kc1 ks1 lv (pc + 3) (va_rf r :: st)) : XW p l e R s m args below meth c Q D A KC KS nL h kc ks lv pc stk := by
  intro H locs cells slots ls hP hD hS hc1 hs1 hl
  subst hst
  have hFc := xa_free hD hS C.2.2.2.2.1.1
  have hRc := C.2.2.2.2.2
  refine va_callq (va_runS (As := As) (rest := st) ⟨C.1.1, C.1.2, C.2.1.1, C.2.1.2, C.2.2.1⟩ (hM H.size) (va_cwS n C.2.2.1 (xg_S h1 h2 h4 h5) rfl rfl rfl hd hR) ⟨xp_blind, xp_pre C hP hD hS⟩ rfl hn hl.1 rfl (lv_room hroom) d ⟨by omega, by omega⟩) hS (fun q _ z => hFc q z) hFc (fun r u t H1 locs1 ht hvm hw hB hz1 hk1 hS1 => ?_)
  obtain ⟨hP1, hD1⟩ := hB
  rw [ht] at hP1
  exact kk r u hw H1 locs1 _ _ ls hP1 (hD1.weaken (fun k q _ z => hFc q.1 z)) hS1 (by omega) (by omega) hl
theorem xr_cSv (C : XC p R s m args c D E A nL own cc KC KS) {y : MethodName} {bytes : ByteArray} {maxL idx F Lc mc ms kc1 ks1 n : Nat} {ret : Option FieldType} {As : List Value} {post : Hp → Prop} {stk : List Value} (hM : XMet l y bytes maxL ret F Lc mc ms D E h As (fun A => va_Qv post (XPost D A) A)) (h1 : Cond.methodLink own idx y ∈ xw_tbl) (h2 : Cond.static y ∈ xw_tbl) (h4 : Cond.initialized y.cls ∈ xw_tbl) (h5 : Cond.code y bytes maxL ret ∈ xw_tbl) (hd : y.cls ≠ "java/lang/invoke/MethodHandle" ∧ y.cls ≠ "java/lang/invoke/VarHandle" ∧ (parseMethodDescriptor y.desc).map (fun d => d.parameters.length) = some n) (hn : As.length = n) (hR : F + 1 ≤ R.frames ∧ 8 + (maxL + 11) + Lc ≤ R.locals) (hkc : kc = mc + kc1) (hks : ks = ms + ks1) (hst : stk = As.reverse ++ st) (hroom : (st.map fun v => v.category).sum ≤ 8) (d : decode cc pc = .ok (.invokestatic idx, 3))
    (kk : ∀ (h1 : Hp), post h1 → XW p l e R s m args below meth c Q D A KC KS nL h1 kc1 ks1 lv (pc + 3) (st)) : XW p l e R s m args below meth c Q D A KC KS nL h kc ks lv pc stk := by
  intro H locs cells slots ls hP hD hS hc1 hs1 hl
  subst hst
  have hFc := xa_free hD hS C.2.2.2.2.1.1
  have hRc := C.2.2.2.2.2
  refine va_callv (va_runS (As := As) (rest := st) ⟨C.1.1, C.1.2, C.2.1.1, C.2.1.2, C.2.2.1⟩ (hM H.size) (va_cwS n C.2.2.1 (xg_S h1 h2 h4 h5) rfl rfl rfl hd hR) ⟨xp_blind, xp_pre C hP hD hS⟩ rfl hn hl.1 rfl (lv_room hroom) d ⟨by omega, by omega⟩) hS (fun q _ z => hFc q z) hFc (fun u t H1 locs1 ht hvm hw hB hz1 hk1 hS1 => ?_)
  obtain ⟨hP1, hD1⟩ := hB
  rw [ht] at hP1
  exact kk u hw H1 locs1 _ _ ls hP1 (hD1.weaken (fun k q _ z => hFc q.1 z)) hS1 (by omega) (by omega) hl
theorem xr_cIv (C : XC p R s m args c D E A nL own cc KC KS) {y : MethodName} {bytes : ByteArray} {maxL idx F Lc mc ms kc1 ks1 n : Nat} {As : List Value} {b : Nat} {post : Hp → Prop} {stk : List Value} (hM : XMet l y bytes maxL none F Lc mc ms D E h (.ref b :: As) (fun A => va_Qv post (XPost D A) A)) (h1 : Cond.methodLink own idx y ∈ xw_tbl) (h2 : Cond.instanceMethod y ∈ xw_tbl) (h4 : Cond.initialized y.cls ∈ xw_tbl) (h5 : Cond.code y bytes maxL none ∈ xw_tbl) (hy1 : y.name = "<init>") (hd : y.cls ≠ "java/lang/invoke/MethodHandle" ∧ y.cls ≠ "java/lang/invoke/VarHandle" ∧ (parseMethodDescriptor y.desc).map (fun d => d.parameters.length) = some n) (hn : As.length = n) (hR : F + 1 ≤ R.frames ∧ 8 + (maxL + 11) + Lc ≤ R.locals) (hkc : kc = mc + kc1) (hks : ks = ms + ks1) (hst : stk = As.reverse ++ .ref b :: st) (hroom : (st.map fun v => v.category).sum ≤ 8) (d : decode cc pc = .ok (.invokespecial idx, 3))
    (kk : ∀ (h1 : Hp), post h1 → XW p l e R s m args below meth c Q D A KC KS nL h1 kc1 ks1 lv (pc + 3) (st)) : XW p l e R s m args below meth c Q D A KC KS nL h kc ks lv pc stk := by
  intro H locs cells slots ls hP hD hS hc1 hs1 hl
  subst hst
  have hFc := xa_free hD hS C.2.2.2.2.1.1
  have hRc := C.2.2.2.2.2
  refine va_callv (va_runI (As := As) (rest := st) ⟨C.1.1, C.1.2, C.2.1.1, C.2.1.2, C.2.2.1⟩ (hM H.size) (cwI n C.2.2.1 (xg_in (xg_code h5)) rfl rfl rfl (C.2.2.1 _ h4) (C.2.2.1 _ h1) (C.2.2.1 _ h2) hy1 hd hR) ⟨xp_blind, xp_pre C hP hD hS⟩ rfl hn hl.1 rfl (lv_room hroom) d ⟨by omega, by omega⟩) hS (fun q _ z => hFc q z) hFc (fun u t H1 locs1 ht hvm hw hB hz1 hk1 hS1 => ?_)
  obtain ⟨hP1, hD1⟩ := hB
  rw [ht] at hP1
  exact kk u hw H1 locs1 _ _ ls hP1 (hD1.weaken (fun k q _ z => hFc q.1 z)) hS1 (by omega) (by omega) hl
theorem xr_cVNi (C : XC p R s m args c D E A nL own cc KC KS) {y : MethodName} {bytes : ByteArray} {maxL idx F Lc mc ms kc1 ks1 n : Nat} {ret : Option FieldType} {As : List Value} {b : Nat} {post : Int32 → Hp → Prop} {stk : List Value} (hM : XMet l y bytes maxL ret F Lc mc ms D E h (.ref b :: As) (fun A => va_Qi post (XPost D A) A)) {Cn : String} {T : u_T} {N ci : Nat} {fs : List Value} {host : String} (hbo : xh_at h b (.inr (ci, fs))) (hcl : vwCl[ci]? = some (Cn, T, N)) (h1 : Cond.methodLinkNest own idx y host ∈ xs_nw) (h2 : Cond.instanceMethod y ∈ xw_tbl) (h3 : Cond.selects Cn y y ∈ xw_tbl) (h4 : Cond.initialized y.cls ∈ xw_tbl) (h5 : Cond.code y bytes maxL ret ∈ xw_tbl) (hd : y.cls ≠ "java/lang/invoke/MethodHandle" ∧ y.cls ≠ "java/lang/invoke/VarHandle" ∧ (parseMethodDescriptor y.desc).map (fun d => d.parameters.length) = some n) (hn : As.length = n) (hR : F + 1 ≤ R.frames ∧ 8 + (maxL + 11) + Lc ≤ R.locals) (hkc : kc = mc + kc1) (hks : ks = ms + ks1) (hst : stk = As.reverse ++ .ref b :: st) (hroom : (st.map fun v => v.category).sum ≤ 8) (d : decode cc pc = .ok (.invokevirtual idx, 3))
    (kk : ∀ (r : Int32) (h1 : Hp), post r h1 → XW p l e R s m args below meth c Q D A KC KS nL h1 kc1 ks1 lv (pc + 3) (.int r :: st)) : XW p l e R s m args below meth c Q D A KC KS nL h kc ks lv pc stk := by
  intro H locs cells slots ls hP hD hS hc1 hs1 hl
  subst hst
  have hFc := xa_free hD hS C.2.2.2.2.1.1
  have hRc := C.2.2.2.2.2
  refine va_calli (va_runVN (As := As) (rest := st) ⟨C.1.1, C.1.2, C.2.1.1, C.2.1.2, C.2.2.1⟩ (hM H.size) ⟨va_cnB n C.2.2.1 (xg_in (xg_code h5)) rfl rfl rfl (C.2.2.2.2.1.2.2.2.2.2 _ h1) (C.2.2.1 _ h4) hd hR, C.2.2.1 _ h2, C.2.2.1 _ h3⟩ ⟨xp_blind, xp_recv C hP hbo hcl, xp_pre C hP hD hS⟩ rfl hn hl.1 rfl (lv_room hroom) d ⟨by omega, by omega⟩) hS (fun q _ z => hFc q z) hFc (fun r u t H1 locs1 ht hvm hw hB hz1 hk1 hS1 => ?_)
  obtain ⟨hP1, hD1⟩ := hB
  rw [ht] at hP1
  exact kk r u hw H1 locs1 _ _ ls hP1 (hD1.weaken (fun k q _ z => hFc q.1 z)) hS1 (by omega) (by omega) hl
theorem xr_cVNl (C : XC p R s m args c D E A nL own cc KC KS) {y : MethodName} {bytes : ByteArray} {maxL idx F Lc mc ms kc1 ks1 n : Nat} {ret : Option FieldType} {As : List Value} {b : Nat} {post : Int64 → Hp → Prop} {stk : List Value} (hM : XMet l y bytes maxL ret F Lc mc ms D E h (.ref b :: As) (fun A => va_Ql post (XPost D A) A)) {Cn : String} {T : u_T} {N ci : Nat} {fs : List Value} {host : String} (hbo : xh_at h b (.inr (ci, fs))) (hcl : vwCl[ci]? = some (Cn, T, N)) (h1 : Cond.methodLinkNest own idx y host ∈ xs_nw) (h2 : Cond.instanceMethod y ∈ xw_tbl) (h3 : Cond.selects Cn y y ∈ xw_tbl) (h4 : Cond.initialized y.cls ∈ xw_tbl) (h5 : Cond.code y bytes maxL ret ∈ xw_tbl) (hd : y.cls ≠ "java/lang/invoke/MethodHandle" ∧ y.cls ≠ "java/lang/invoke/VarHandle" ∧ (parseMethodDescriptor y.desc).map (fun d => d.parameters.length) = some n) (hn : As.length = n) (hR : F + 1 ≤ R.frames ∧ 8 + (maxL + 11) + Lc ≤ R.locals) (hkc : kc = mc + kc1) (hks : ks = ms + ks1) (hst : stk = As.reverse ++ .ref b :: st) (hroom : (st.map fun v => v.category).sum ≤ 8) (d : decode cc pc = .ok (.invokevirtual idx, 3))
    (kk : ∀ (r : Int64) (h1 : Hp), post r h1 → XW p l e R s m args below meth c Q D A KC KS nL h1 kc1 ks1 lv (pc + 3) (.long r :: st)) : XW p l e R s m args below meth c Q D A KC KS nL h kc ks lv pc stk := by
  intro H locs cells slots ls hP hD hS hc1 hs1 hl
  subst hst
  have hFc := xa_free hD hS C.2.2.2.2.1.1
  have hRc := C.2.2.2.2.2
  refine va_calll (va_runVN (As := As) (rest := st) ⟨C.1.1, C.1.2, C.2.1.1, C.2.1.2, C.2.2.1⟩ (hM H.size) ⟨va_cnB n C.2.2.1 (xg_in (xg_code h5)) rfl rfl rfl (C.2.2.2.2.1.2.2.2.2.2 _ h1) (C.2.2.1 _ h4) hd hR, C.2.2.1 _ h2, C.2.2.1 _ h3⟩ ⟨xp_blind, xp_recv C hP hbo hcl, xp_pre C hP hD hS⟩ rfl hn hl.1 rfl (lv_room hroom) d ⟨by omega, by omega⟩) hS (fun q _ z => hFc q z) hFc (fun r u t H1 locs1 ht hvm hw hB hz1 hk1 hS1 => ?_)
  obtain ⟨hP1, hD1⟩ := hB
  rw [ht] at hP1
  exact kk r u hw H1 locs1 _ _ ls hP1 (hD1.weaken (fun k q _ z => hFc q.1 z)) hS1 (by omega) (by omega) hl
theorem xr_cVNq (C : XC p R s m args c D E A nL own cc KC KS) {y : MethodName} {bytes : ByteArray} {maxL idx F Lc mc ms kc1 ks1 n : Nat} {ret : Option FieldType} {As : List Value} {b : Nat} {post : Option Nat → Hp → Prop} {stk : List Value} (hM : XMet l y bytes maxL ret F Lc mc ms D E h (.ref b :: As) (fun A => va_Qq post (XPost D A) A)) {Cn : String} {T : u_T} {N ci : Nat} {fs : List Value} {host : String} (hbo : xh_at h b (.inr (ci, fs))) (hcl : vwCl[ci]? = some (Cn, T, N)) (h1 : Cond.methodLinkNest own idx y host ∈ xs_nw) (h2 : Cond.instanceMethod y ∈ xw_tbl) (h3 : Cond.selects Cn y y ∈ xw_tbl) (h4 : Cond.initialized y.cls ∈ xw_tbl) (h5 : Cond.code y bytes maxL ret ∈ xw_tbl) (hd : y.cls ≠ "java/lang/invoke/MethodHandle" ∧ y.cls ≠ "java/lang/invoke/VarHandle" ∧ (parseMethodDescriptor y.desc).map (fun d => d.parameters.length) = some n) (hn : As.length = n) (hR : F + 1 ≤ R.frames ∧ 8 + (maxL + 11) + Lc ≤ R.locals) (hkc : kc = mc + kc1) (hks : ks = ms + ks1) (hst : stk = As.reverse ++ .ref b :: st) (hroom : (st.map fun v => v.category).sum ≤ 8) (d : decode cc pc = .ok (.invokevirtual idx, 3))
    (kk : ∀ (r : Option Nat) (h1 : Hp), post r h1 → XW p l e R s m args below meth c Q D A KC KS nL h1 kc1 ks1 lv (pc + 3) (va_rf r :: st)) : XW p l e R s m args below meth c Q D A KC KS nL h kc ks lv pc stk := by
  intro H locs cells slots ls hP hD hS hc1 hs1 hl
  subst hst
  have hFc := xa_free hD hS C.2.2.2.2.1.1
  have hRc := C.2.2.2.2.2
  refine va_callq (va_runVN (As := As) (rest := st) ⟨C.1.1, C.1.2, C.2.1.1, C.2.1.2, C.2.2.1⟩ (hM H.size) ⟨va_cnB n C.2.2.1 (xg_in (xg_code h5)) rfl rfl rfl (C.2.2.2.2.1.2.2.2.2.2 _ h1) (C.2.2.1 _ h4) hd hR, C.2.2.1 _ h2, C.2.2.1 _ h3⟩ ⟨xp_blind, xp_recv C hP hbo hcl, xp_pre C hP hD hS⟩ rfl hn hl.1 rfl (lv_room hroom) d ⟨by omega, by omega⟩) hS (fun q _ z => hFc q z) hFc (fun r u t H1 locs1 ht hvm hw hB hz1 hk1 hS1 => ?_)
  obtain ⟨hP1, hD1⟩ := hB
  rw [ht] at hP1
  exact kk r u hw H1 locs1 _ _ ls hP1 (hD1.weaken (fun k q _ z => hFc q.1 z)) hS1 (by omega) (by omega) hl
theorem xr_cVNv (C : XC p R s m args c D E A nL own cc KC KS) {y : MethodName} {bytes : ByteArray} {maxL idx F Lc mc ms kc1 ks1 n : Nat} {ret : Option FieldType} {As : List Value} {b : Nat} {post : Hp → Prop} {stk : List Value} (hM : XMet l y bytes maxL ret F Lc mc ms D E h (.ref b :: As) (fun A => va_Qv post (XPost D A) A)) {Cn : String} {T : u_T} {N ci : Nat} {fs : List Value} {host : String} (hbo : xh_at h b (.inr (ci, fs))) (hcl : vwCl[ci]? = some (Cn, T, N)) (h1 : Cond.methodLinkNest own idx y host ∈ xs_nw) (h2 : Cond.instanceMethod y ∈ xw_tbl) (h3 : Cond.selects Cn y y ∈ xw_tbl) (h4 : Cond.initialized y.cls ∈ xw_tbl) (h5 : Cond.code y bytes maxL ret ∈ xw_tbl) (hd : y.cls ≠ "java/lang/invoke/MethodHandle" ∧ y.cls ≠ "java/lang/invoke/VarHandle" ∧ (parseMethodDescriptor y.desc).map (fun d => d.parameters.length) = some n) (hn : As.length = n) (hR : F + 1 ≤ R.frames ∧ 8 + (maxL + 11) + Lc ≤ R.locals) (hkc : kc = mc + kc1) (hks : ks = ms + ks1) (hst : stk = As.reverse ++ .ref b :: st) (hroom : (st.map fun v => v.category).sum ≤ 8) (d : decode cc pc = .ok (.invokevirtual idx, 3))
    (kk : ∀ (h1 : Hp), post h1 → XW p l e R s m args below meth c Q D A KC KS nL h1 kc1 ks1 lv (pc + 3) (st)) : XW p l e R s m args below meth c Q D A KC KS nL h kc ks lv pc stk := by
  intro H locs cells slots ls hP hD hS hc1 hs1 hl
  subst hst
  have hFc := xa_free hD hS C.2.2.2.2.1.1
  have hRc := C.2.2.2.2.2
  refine va_callv (va_runVN (As := As) (rest := st) ⟨C.1.1, C.1.2, C.2.1.1, C.2.1.2, C.2.2.1⟩ (hM H.size) ⟨va_cnB n C.2.2.1 (xg_in (xg_code h5)) rfl rfl rfl (C.2.2.2.2.1.2.2.2.2.2 _ h1) (C.2.2.1 _ h4) hd hR, C.2.2.1 _ h2, C.2.2.1 _ h3⟩ ⟨xp_blind, xp_recv C hP hbo hcl, xp_pre C hP hD hS⟩ rfl hn hl.1 rfl (lv_room hroom) d ⟨by omega, by omega⟩) hS (fun q _ z => hFc q z) hFc (fun u t H1 locs1 ht hvm hw hB hz1 hk1 hS1 => ?_)
  obtain ⟨hP1, hD1⟩ := hB
  rw [ht] at hP1
  exact kk u hw H1 locs1 _ _ ls hP1 (hD1.weaken (fun k q _ z => hFc q.1 z)) hS1 (by omega) (by omega) hl
theorem xr_cINv (C : XC p R s m args c D E A nL own cc KC KS) {y : MethodName} {bytes : ByteArray} {maxL idx F Lc mc ms kc1 ks1 n : Nat} {As : List Value} {b : Nat} {post : Hp → Prop} {stk : List Value} (hM : XMet l y bytes maxL none F Lc mc ms D E h (.ref b :: As) (fun A => va_Qv post (XPost D A) A)) {host : String} (h1 : Cond.methodLinkNest own idx y host ∈ xs_nw) (h2 : Cond.instanceMethod y ∈ xw_tbl) (h4 : Cond.initialized y.cls ∈ xw_tbl) (h5 : Cond.code y bytes maxL none ∈ xw_tbl) (hy1 : y.name = "<init>") (hd : y.cls ≠ "java/lang/invoke/MethodHandle" ∧ y.cls ≠ "java/lang/invoke/VarHandle" ∧ (parseMethodDescriptor y.desc).map (fun d => d.parameters.length) = some n) (hn : As.length = n) (hR : F + 1 ≤ R.frames ∧ 8 + (maxL + 11) + Lc ≤ R.locals) (hkc : kc = mc + kc1) (hks : ks = ms + ks1) (hst : stk = As.reverse ++ .ref b :: st) (hroom : (st.map fun v => v.category).sum ≤ 8) (d : decode cc pc = .ok (.invokespecial idx, 3))
    (kk : ∀ (h1 : Hp), post h1 → XW p l e R s m args below meth c Q D A KC KS nL h1 kc1 ks1 lv (pc + 3) (st)) : XW p l e R s m args below meth c Q D A KC KS nL h kc ks lv pc stk := by
  intro H locs cells slots ls hP hD hS hc1 hs1 hl
  subst hst
  have hFc := xa_free hD hS C.2.2.2.2.1.1
  have hRc := C.2.2.2.2.2
  refine va_callv (va_runIN (As := As) (rest := st) ⟨C.1.1, C.1.2, C.2.1.1, C.2.1.2, C.2.2.1⟩ (hM H.size) ⟨va_cnB n C.2.2.1 (xg_in (xg_code h5)) rfl rfl rfl (C.2.2.2.2.1.2.2.2.2.2 _ h1) (C.2.2.1 _ h4) hd hR, hy1, C.2.2.1 _ h2⟩ ⟨xp_blind, xp_pre C hP hD hS⟩ rfl hn hl.1 rfl (lv_room hroom) d ⟨by omega, by omega⟩) hS (fun q _ z => hFc q z) hFc (fun u t H1 locs1 ht hvm hw hB hz1 hk1 hS1 => ?_)
  obtain ⟨hP1, hD1⟩ := hB
  rw [ht] at hP1
  exact kk u hw H1 locs1 _ _ ls hP1 (hD1.weaken (fun k q _ z => hFc q.1 z)) hS1 (by omega) (by omega) hl
theorem xr_cSNi (C : XC p R s m args c D E A nL own cc KC KS) {y : MethodName} {bytes : ByteArray} {maxL idx F Lc mc ms kc1 ks1 n : Nat} {ret : Option FieldType} {As : List Value} {post : Int32 → Hp → Prop} {stk : List Value} (hM : XMet l y bytes maxL ret F Lc mc ms D E h As (fun A => va_Qi post (XPost D A) A)) {host : String} (h1 : Cond.methodLinkNest own idx y host ∈ xs_nw) (h2 : Cond.static y ∈ xw_tbl) (h4 : Cond.initialized y.cls ∈ xw_tbl) (h5 : Cond.code y bytes maxL ret ∈ xw_tbl) (hd : y.cls ≠ "java/lang/invoke/MethodHandle" ∧ y.cls ≠ "java/lang/invoke/VarHandle" ∧ (parseMethodDescriptor y.desc).map (fun d => d.parameters.length) = some n) (hn : As.length = n) (hR : F + 1 ≤ R.frames ∧ 8 + (maxL + 11) + Lc ≤ R.locals) (hkc : kc = mc + kc1) (hks : ks = ms + ks1) (hst : stk = As.reverse ++ st) (hroom : (st.map fun v => v.category).sum ≤ 8) (d : decode cc pc = .ok (.invokestatic idx, 3))
    (kk : ∀ (r : Int32) (h1 : Hp), post r h1 → XW p l e R s m args below meth c Q D A KC KS nL h1 kc1 ks1 lv (pc + 3) (.int r :: st)) : XW p l e R s m args below meth c Q D A KC KS nL h kc ks lv pc stk := by
  intro H locs cells slots ls hP hD hS hc1 hs1 hl
  subst hst
  have hFc := xa_free hD hS C.2.2.2.2.1.1
  have hRc := C.2.2.2.2.2
  refine va_calli (va_runSN (As := As) (rest := st) ⟨C.1.1, C.1.2, C.2.1.1, C.2.1.2, C.2.2.1⟩ (hM H.size) ⟨va_cnB n C.2.2.1 (xg_in (xg_code h5)) rfl rfl rfl (C.2.2.2.2.1.2.2.2.2.2 _ h1) (C.2.2.1 _ h4) hd hR, C.2.2.1 _ h2, trivial⟩ ⟨xp_blind, xp_pre C hP hD hS⟩ rfl hn hl.1 rfl (lv_room hroom) d ⟨by omega, by omega⟩) hS (fun q _ z => hFc q z) hFc (fun r u t H1 locs1 ht hvm hw hB hz1 hk1 hS1 => ?_)
  obtain ⟨hP1, hD1⟩ := hB
  rw [ht] at hP1
  exact kk r u hw H1 locs1 _ _ ls hP1 (hD1.weaken (fun k q _ z => hFc q.1 z)) hS1 (by omega) (by omega) hl
theorem xr_cSNl (C : XC p R s m args c D E A nL own cc KC KS) {y : MethodName} {bytes : ByteArray} {maxL idx F Lc mc ms kc1 ks1 n : Nat} {ret : Option FieldType} {As : List Value} {post : Int64 → Hp → Prop} {stk : List Value} (hM : XMet l y bytes maxL ret F Lc mc ms D E h As (fun A => va_Ql post (XPost D A) A)) {host : String} (h1 : Cond.methodLinkNest own idx y host ∈ xs_nw) (h2 : Cond.static y ∈ xw_tbl) (h4 : Cond.initialized y.cls ∈ xw_tbl) (h5 : Cond.code y bytes maxL ret ∈ xw_tbl) (hd : y.cls ≠ "java/lang/invoke/MethodHandle" ∧ y.cls ≠ "java/lang/invoke/VarHandle" ∧ (parseMethodDescriptor y.desc).map (fun d => d.parameters.length) = some n) (hn : As.length = n) (hR : F + 1 ≤ R.frames ∧ 8 + (maxL + 11) + Lc ≤ R.locals) (hkc : kc = mc + kc1) (hks : ks = ms + ks1) (hst : stk = As.reverse ++ st) (hroom : (st.map fun v => v.category).sum ≤ 8) (d : decode cc pc = .ok (.invokestatic idx, 3))
    (kk : ∀ (r : Int64) (h1 : Hp), post r h1 → XW p l e R s m args below meth c Q D A KC KS nL h1 kc1 ks1 lv (pc + 3) (.long r :: st)) : XW p l e R s m args below meth c Q D A KC KS nL h kc ks lv pc stk := by
  intro H locs cells slots ls hP hD hS hc1 hs1 hl
  subst hst
  have hFc := xa_free hD hS C.2.2.2.2.1.1
  have hRc := C.2.2.2.2.2
  refine va_calll (va_runSN (As := As) (rest := st) ⟨C.1.1, C.1.2, C.2.1.1, C.2.1.2, C.2.2.1⟩ (hM H.size) ⟨va_cnB n C.2.2.1 (xg_in (xg_code h5)) rfl rfl rfl (C.2.2.2.2.1.2.2.2.2.2 _ h1) (C.2.2.1 _ h4) hd hR, C.2.2.1 _ h2, trivial⟩ ⟨xp_blind, xp_pre C hP hD hS⟩ rfl hn hl.1 rfl (lv_room hroom) d ⟨by omega, by omega⟩) hS (fun q _ z => hFc q z) hFc (fun r u t H1 locs1 ht hvm hw hB hz1 hk1 hS1 => ?_)
  obtain ⟨hP1, hD1⟩ := hB
  rw [ht] at hP1
  exact kk r u hw H1 locs1 _ _ ls hP1 (hD1.weaken (fun k q _ z => hFc q.1 z)) hS1 (by omega) (by omega) hl
theorem xr_cSNq (C : XC p R s m args c D E A nL own cc KC KS) {y : MethodName} {bytes : ByteArray} {maxL idx F Lc mc ms kc1 ks1 n : Nat} {ret : Option FieldType} {As : List Value} {post : Option Nat → Hp → Prop} {stk : List Value} (hM : XMet l y bytes maxL ret F Lc mc ms D E h As (fun A => va_Qq post (XPost D A) A)) {host : String} (h1 : Cond.methodLinkNest own idx y host ∈ xs_nw) (h2 : Cond.static y ∈ xw_tbl) (h4 : Cond.initialized y.cls ∈ xw_tbl) (h5 : Cond.code y bytes maxL ret ∈ xw_tbl) (hd : y.cls ≠ "java/lang/invoke/MethodHandle" ∧ y.cls ≠ "java/lang/invoke/VarHandle" ∧ (parseMethodDescriptor y.desc).map (fun d => d.parameters.length) = some n) (hn : As.length = n) (hR : F + 1 ≤ R.frames ∧ 8 + (maxL + 11) + Lc ≤ R.locals) (hkc : kc = mc + kc1) (hks : ks = ms + ks1) (hst : stk = As.reverse ++ st) (hroom : (st.map fun v => v.category).sum ≤ 8) (d : decode cc pc = .ok (.invokestatic idx, 3))
    (kk : ∀ (r : Option Nat) (h1 : Hp), post r h1 → XW p l e R s m args below meth c Q D A KC KS nL h1 kc1 ks1 lv (pc + 3) (va_rf r :: st)) : XW p l e R s m args below meth c Q D A KC KS nL h kc ks lv pc stk := by
  intro H locs cells slots ls hP hD hS hc1 hs1 hl
  subst hst
  have hFc := xa_free hD hS C.2.2.2.2.1.1
  have hRc := C.2.2.2.2.2
  refine va_callq (va_runSN (As := As) (rest := st) ⟨C.1.1, C.1.2, C.2.1.1, C.2.1.2, C.2.2.1⟩ (hM H.size) ⟨va_cnB n C.2.2.1 (xg_in (xg_code h5)) rfl rfl rfl (C.2.2.2.2.1.2.2.2.2.2 _ h1) (C.2.2.1 _ h4) hd hR, C.2.2.1 _ h2, trivial⟩ ⟨xp_blind, xp_pre C hP hD hS⟩ rfl hn hl.1 rfl (lv_room hroom) d ⟨by omega, by omega⟩) hS (fun q _ z => hFc q z) hFc (fun r u t H1 locs1 ht hvm hw hB hz1 hk1 hS1 => ?_)
  obtain ⟨hP1, hD1⟩ := hB
  rw [ht] at hP1
  exact kk r u hw H1 locs1 _ _ ls hP1 (hD1.weaken (fun k q _ z => hFc q.1 z)) hS1 (by omega) (by omega) hl
theorem xr_cSNv (C : XC p R s m args c D E A nL own cc KC KS) {y : MethodName} {bytes : ByteArray} {maxL idx F Lc mc ms kc1 ks1 n : Nat} {ret : Option FieldType} {As : List Value} {post : Hp → Prop} {stk : List Value} (hM : XMet l y bytes maxL ret F Lc mc ms D E h As (fun A => va_Qv post (XPost D A) A)) {host : String} (h1 : Cond.methodLinkNest own idx y host ∈ xs_nw) (h2 : Cond.static y ∈ xw_tbl) (h4 : Cond.initialized y.cls ∈ xw_tbl) (h5 : Cond.code y bytes maxL ret ∈ xw_tbl) (hd : y.cls ≠ "java/lang/invoke/MethodHandle" ∧ y.cls ≠ "java/lang/invoke/VarHandle" ∧ (parseMethodDescriptor y.desc).map (fun d => d.parameters.length) = some n) (hn : As.length = n) (hR : F + 1 ≤ R.frames ∧ 8 + (maxL + 11) + Lc ≤ R.locals) (hkc : kc = mc + kc1) (hks : ks = ms + ks1) (hst : stk = As.reverse ++ st) (hroom : (st.map fun v => v.category).sum ≤ 8) (d : decode cc pc = .ok (.invokestatic idx, 3))
    (kk : ∀ (h1 : Hp), post h1 → XW p l e R s m args below meth c Q D A KC KS nL h1 kc1 ks1 lv (pc + 3) (st)) : XW p l e R s m args below meth c Q D A KC KS nL h kc ks lv pc stk := by
  intro H locs cells slots ls hP hD hS hc1 hs1 hl
  subst hst
  have hFc := xa_free hD hS C.2.2.2.2.1.1
  have hRc := C.2.2.2.2.2
  refine va_callv (va_runSN (As := As) (rest := st) ⟨C.1.1, C.1.2, C.2.1.1, C.2.1.2, C.2.2.1⟩ (hM H.size) ⟨va_cnB n C.2.2.1 (xg_in (xg_code h5)) rfl rfl rfl (C.2.2.2.2.1.2.2.2.2.2 _ h1) (C.2.2.1 _ h4) hd hR, C.2.2.1 _ h2, trivial⟩ ⟨xp_blind, xp_pre C hP hD hS⟩ rfl hn hl.1 rfl (lv_room hroom) d ⟨by omega, by omega⟩) hS (fun q _ z => hFc q z) hFc (fun u t H1 locs1 ht hvm hw hB hz1 hk1 hS1 => ?_)
  obtain ⟨hP1, hD1⟩ := hB
  rw [ht] at hP1
  exact kk u hw H1 locs1 _ _ ls hP1 (hD1.weaken (fun k q _ z => hFc q.1 z)) hS1 (by omega) (by omega) hl
theorem xr_ireturn (C : XC p R s m args c D E A nL own cc KC KS) (hr : meth.sig.returnType = some .int) (hlk : meth.locks = false) {post : Int32 → Hp → Prop} {v : Int32} (hq : post v h) (d : decode cc pc = .ok (.ireturn, 1)) : XW p l e R s m args below meth c (MQ below (va_Qi post (XPost D A) A) args s KC KS A) D A KC KS nL h kc ks lv pc [.int v] := by
  intro H locs cells slots ls hP hD hS hc1 hs1 hl
  refine W.widen (k := KC) (n := KS) (by omega) (by omega) ?_
  exact W.iret C.1.1 C.1.2 hr (fun t ht hW => ⟨⟨v, h, rfl, hq, by rw [ht]; exact hP, hD⟩, hS.F ht⟩) hS.2.2 d hlk
theorem xr_zreturn (C : XC p R s m args c D E A nL own cc KC KS) (hr : meth.sig.returnType = some .boolean) (hlk : meth.locks = false) {post : Int32 → Hp → Prop} {v : Int32} (hz : v = 0 ∨ v = 1) (hq : post v h) (d : decode cc pc = .ok (.ireturn, 1)) : XW p l e R s m args below meth c (MQ below (va_Qi post (XPost D A) A) args s KC KS A) D A KC KS nL h kc ks lv pc [.int v] := by
  intro H locs cells slots ls hP hD hS hc1 hs1 hl
  refine W.widen (k := KC) (n := KS) (by omega) (by omega) ?_
  exact W.zret C.1.1 C.1.2 hr (by rcases hz with rfl | rfl <;> rfl) (fun t ht hW => ⟨⟨v, h, rfl, hq, by rw [ht]; exact hP, hD⟩, hS.F ht⟩) hS.2.2 d hlk
theorem xr_lreturn (C : XC p R s m args c D E A nL own cc KC KS) (hr : meth.sig.returnType = some .long) (hlk : meth.locks = false) {post : Int64 → Hp → Prop} {v : Int64} (hq : post v h) (d : decode cc pc = .ok (.lreturn, 1)) : XW p l e R s m args below meth c (MQ below (va_Ql post (XPost D A) A) args s KC KS A) D A KC KS nL h kc ks lv pc [.long v] := by
  intro H locs cells slots ls hP hD hS hc1 hs1 hl
  refine W.widen (k := KC) (n := KS) (by omega) (by omega) ?_
  exact W.lret C.1.1 C.1.2 hr (fun t ht hW => ⟨⟨v, h, rfl, hq, by rw [ht]; exact hP, hD⟩, hS.F ht⟩) hS.2.2 d hlk
theorem xr_vreturn (C : XC p R s m args c D E A nL own cc KC KS) (hr : meth.sig.returnType = none) (hlk : meth.locks = false) {post : Hp → Prop} (hq : post h) (d : decode cc pc = .ok (.return_, 1)) : XW p l e R s m args below meth c (MQ below (va_Qv post (XPost D A) A) args s KC KS A) D A KC KS nL h kc ks lv pc [] := by
  intro H locs cells slots ls hP hD hS hc1 hs1 hl
  refine W.widen (k := KC) (n := KS) (by omega) (by omega) ?_
  exact W.vret C.1.1 C.1.2 hr (fun t ht hW => ⟨⟨h, rfl, hq, by rw [ht]; exact hP, hD⟩, hS.F ht⟩) hS.2.2 d hlk
theorem xr_areturn (C : XC p R s m args c D E A nL own cc KC KS) {rt : FieldType} (hr : meth.sig.returnType = some rt) (hrt : (∃ n, rt = .object n) ∨ ∃ t, rt = .array t) (hlk : meth.locks = false) {post : Option Nat → Hp → Prop} {r : Option Nat} (hq : post r h) (d : decode cc pc = .ok (.areturn, 1)) : XW p l e R s m args below meth c (MQ below (va_Qq post (XPost D A) A) args s KC KS A) D A KC KS nL h kc ks lv pc [va_rf r] := by
  intro H locs cells slots ls hP hD hS hc1 hs1 hl
  refine W.widen (k := KC) (n := KS) (by omega) (by omega) ?_
  exact W.aret C.1.1 C.1.2 hr hrt (by cases r with | none => exact Or.inl rfl | some a => exact Or.inr ⟨a, rfl⟩) (fun t ht hW => ⟨⟨r, h, rfl, hq, by rw [ht]; exact hP, hD⟩, hS.F ht⟩) hS.2.2 d hlk
/-- a method's contract out of the walk of its body -/
theorem xm_of {y : MethodName} {bytes : ByteArray} {maxL F Lc mc ms : Nat} {ret : Option FieldType} {As : List Value} {Qf : (Nat → Prop) → Array Value → State → Outcome → State → Prop} (hy : plainName y.cls = true) {lv0 : List (Nat × Value)} (hlen : (lg_sl As).length ≤ maxL) (hlv : lv_args 0 As = lv0) (own : String) (hown : y.cls = own)
    (body : ∀ (p : Program) (e : Env) (s : State) (m : MethodId) (args : Array Value) (below : List Frame) (meth : Method) (c : Code) (A : Nat → Prop) (R : Room), R = { frames := F, cells := mc, slots := ms, locals := Lc } → XC p R s m args c D E A maxL own bytes mc ms → meth.sig.returnType = ret → meth.locks = false → meth.name = y.name →
      XW p l e R s m args below meth c (MQ below (Qf A) args s mc ms A) D A mc ms maxL h mc ms lv0 0 []) : XMet l y bytes maxL ret F Lc mc ms D E h As Qf := by
  subst hlv
  intro sz
  refine Met.ofW (cc := bytes) (maxL := maxL) (ret := ret) hy rfl ?_
  intro p e s m args below meth c s₁ B hml hv
  obtain ⟨rfl, hsz, hP, hK, hD0, hS0⟩ := hv
  have hts := atoms_spec (ws := Cond.code y bytes maxL ret :: xw_tbl) B.pre
  have hown' : s.vm.findClass own = some m.cls := by rw [← hown]; exact findClass_of_methodNamed B.named
  subst hsz
  have hD := hD0.self (sz := s.heap.size)
  have hA : ∀ q : Nat, s.heap.size ≤ q → XA h s.heap.size q := fun q z => Or.inr z
  have hl := lv_entry As (n := maxL) hlen
  rw [lg_entry_eq]
  generalize (lg_sl As ++ List.replicate (maxL - (lg_sl As).length) Slot.unset).toArray = ls at hl ⊢
  exact body p e s m As.toArray below meth c (XA h s.heap.size) _ rfl ⟨⟨B.exec, B.bytes⟩, ⟨hml, hown'⟩, fun w hw => hts w (List.mem_cons_of_mem _ hw), hK, ⟨hA, hS0⟩, rfl, rfl⟩ B.returns B.notSynchronized (name_of_methodNamed B.named B.method).1 s.heap [] 0 0 ls hP hD va_S.rf (Nat.zero_add _) (Nat.zero_add _) hl
end XM
section XN
variable {p : Program} {l : Launch} {e : Env} {R : Room} {s : State} {m : MethodId} {args : Array Value} {below : List Frame} {meth : Method} {c : Code} {Q : State → Prop} {D : va_G} {E : Ev} {A : Nat → Prop} {KC KS nL : Nat} {own : String} {cc : ByteArray} {h : Hp} {kc ks : Nat} {lv : List (Nat × Value)} {pc : Nat} {st : List Value}
theorem xr_uniq {U : State} {cA cB : ClassId} {ty : FieldType} (h1 : va_RA U cA ty) (h2 : va_RA U cB ty) : cA = cB := by
  cases ty with
  | object Cn =>
    obtain ⟨_, _, _, _, _, a4⟩ := h1
    obtain ⟨_, _, _, _, _, b4⟩ := h2
    exact Option.some.inj (a4.symm.trans b4)
  | _ => exact Option.some.inj (Eq.trans (Eq.symm h1) h2)
theorem xr_uniqK {cA : ClassId} {ty : FieldType} (hK : va_K D vwCl (xe_tyl E) s) (t : Nat) (ht : xs_ty[t]? = some ty) (hK2 : va_K D vwCl (xe_tyl E ++ [(cA, ty)]) s) : cA = E.1 t := by
  have a := (hK.2 t _ (xe_ty_at t ht)).2
  have b := (hK2.2 (xe_tyl E).length (cA, ty) (by rw [List.getElem?_append_right (Nat.le_refl _), Nat.sub_self]; rfl)).2
  exact xr_uniq b a
/-- a new object -/
theorem xr_new (C : XC p R s m args c D E A nL own cc KC KS) {Cn : String} {T : u_T} {N ci idx kc1 ks1 : Nat} {fs : List Value} (ty0 : Nat → FieldType) (hty : ∀ k, k < N → parseFieldDescriptor (T k).2.2.1 = some (ty0 k)) (hc : vwCl[ci]? = some (Cn, T, N)) (hin : ∀ w ∈ u_ws Cn T N, w ∈ xw_tbl) (h1 : Cond.classLink own idx Cn ∈ xw_tbl) (h2 : Cond.instantiable Cn N ∈ xw_tbl) (h3 : Cond.initialized Cn ∈ xw_tbl) (hfs : ∀ j, j < N → defaultValue (ty0 j) = vp_V fs j) (hkc : kc = 1 + kc1) (hks : ks = N + ks1) (d : decode cc pc = .ok (.new idx, 3))
    (kk : ∀ (q : Nat) (h1 : Hp), q ∉ h.1 → h1 = xh_new h q (.inr (ci, fs)) → XW p l e R s m args below meth c Q D A KC KS nL h1 kc1 ks1 lv (pc + 3) (.ref q :: st)) : XW p l e R s m args below meth c Q D A KC KS nL h kc ks lv pc st := by
  intro H locs cells slots ls hP hD hS hc1 hs1 hl
  have hRc := C.2.2.2.2.2
  refine va_new C.1.1 C.1.2 C.2.2.1 hin ty0 hty C.2.1.2 (C.2.2.1 _ h1) (C.2.2.1 _ h2) (C.2.2.1 _ h3) C.2.2.2.1 hP hD hS C.2.2.2.2.1.1 hc hfs (by omega) (by omega) d (fun q H1 hP1 hD1 hS1 => ?_)
  obtain ⟨hn, he⟩ := xh_push (D := D) (H1 := H1) hD1
  rw [he] at hP1 hD1
  exact kk q _ hn rfl H1 locs _ _ ls hP1 hD1 hS1 (by omega) (by omega) hl
/-- new int[n], new long[n] -/
theorem xr_newa (C : XC p R s m args c D E A nL own cc KC KS) {aty : ArrayType} {ty : FieldType} (t : Nat) (ht : xs_ty[t]? = some ty) (hw : Cond.arrayClass (newarray.typeOf aty) ∈ xw_tbl) (hty : newarray.typeOf aty = ty) {n : Int32} {N kc1 ks1 : Nat} {a0 : vp_A} (ha : ∀ cA : ClassId, vp_cell cA a0 = arrV cA N (fun _ => defaultValue ty)) (hn : ¬ n < 0) (hN : n.toNatClampNeg = N) (hbytes : N * componentBytes ty ≤ 536870912) (hkc : kc = 1 + kc1) (hks : ks = N + ks1) (d : decode cc pc = .ok (.newarray aty, 2))
    (kk : ∀ (q : Nat) (h1 : Hp), q ∉ h.1 → h1 = xh_new h q (.inl (E.1 t, a0)) → XW p l e R s m args below meth c Q D A KC KS nL h1 kc1 ks1 lv (pc + 2) (.ref q :: st)) : XW p l e R s m args below meth c Q D A KC KS nL h kc ks lv pc (.int n :: st) := by
  intro H locs cells slots ls hP hD hS hc1 hs1 hl
  have hRc := C.2.2.2.2.2
  refine va_newa C.1.1 C.1.2 (C.2.2.1 _ hw) hty C.2.2.2.1 hP hD hS C.2.2.2.2.1.1 ha hn hN hbytes (by omega) (by omega) d (fun q cA H1 hK1 hP1 hD1 hS1 => ?_)
  have hcA := xr_uniqK C.2.2.2.1 t ht hK1
  subst hcA
  obtain ⟨hn, he⟩ := xh_push (D := D) (H1 := H1) hD1
  rw [he] at hP1 hD1
  exact kk q _ hn rfl H1 locs _ _ ls hP1 hD1 hS1 (by omega) (by omega) hl
/-- new C[n] -/
theorem xr_newq (C : XC p R s m args c D E A nL own cc KC KS) {Cn : String} {idx : Nat} (t : Nat) (ht : xs_ty[t]? = some (.object Cn)) (h1 : Cond.classLink own idx Cn ∈ xw_tbl) (h2 : Cn ∈ xs_ao) {n : Int32} {N kc1 ks1 : Nat} (hn : ¬ n < 0) (hN : n.toNatClampNeg = N) (hbytes : N * 4 ≤ 536870912) (hkc : kc = 1 + kc1) (hks : ks = N + ks1) (d : decode cc pc = .ok (.anewarray idx, 3))
    (kk : ∀ (q : Nat) (h1 : Hp), q ∉ h.1 → h1 = xh_new h q (.inl (E.1 t, N, .inr (.inr (.inr (.inr (fun _ => none)))))) → XW p l e R s m args below meth c Q D A KC KS nL h1 kc1 ks1 lv (pc + 3) (.ref q :: st)) : XW p l e R s m args below meth c Q D A KC KS nL h kc ks lv pc (.int n :: st) := by
  intro H locs cells slots ls hP hD hS hc1 hs1 hl
  have hRc := C.2.2.2.2.2
  refine va_newq C.1.1 C.1.2 C.2.1.2 (C.2.2.1 _ h1) (C.2.2.2.2.1.2.2.2.2.1 _ h2) C.2.2.2.1 hP hD hS C.2.2.2.2.1.1 hn hN hbytes (by omega) (by omega) d (fun q cA H1 hK1 hP1 hD1 hS1 => ?_)
  have hcA := xr_uniqK C.2.2.2.1 t ht hK1
  subst hcA
  obtain ⟨hn, he⟩ := xh_push (D := D) (H1 := H1) hD1
  rw [he] at hP1 hD1
  exact kk q _ hn rfl H1 locs _ _ ls hP1 hD1 hS1 (by omega) (by omega) hl
/-- a reference into a row of its own class -/
theorem xr_aast (C : XC p R s m args c D E A nL own cc KC KS) {Cn : String} {T : u_T} {N ci : Nat} (t : Nat) (ht : xs_ty[t]? = some (.object Cn)) {a n v : Nat} {fs : List Value} {f : Nat → Option Nat} (ha : xh_at h a (.inl (E.1 t, n, .inr (.inr (.inr (.inr f)))))) (hv : xh_at h v (.inr (ci, fs))) (hc : vwCl[ci]? = some (Cn, T, N)) {i : Int32} (hin : vp_in i n) {h1 : Hp} (hh : h1 = xh_set h a (.inl (E.1 t, n, .inr (.inr (.inr (.inr (va_up f i.toNatClampNeg (some v)))))))) (d : decode cc pc = .ok (.aastore, 1))
    (kk : XW p l e R s m args below meth c Q D A KC KS nL h1 kc ks lv (pc + 1) st) : XW p l e R s m args below meth c Q D A KC KS nL h kc ks lv pc (.ref v :: .int i :: .ref a :: st) := by
  subst hh
  intro H locs cells slots ls hP hD hS hc1 hs hl
  obtain ⟨q, hq⟩ := xh_get ha
  obtain ⟨q2, hq2⟩ := xh_get hv
  refine va_astq (r := (Cn, T, N)) C.1.1 C.1.2 C.2.2.2.1 hP hD hS q t q2 ci hq (xe_ty_at t ht) hq2 hc hin d (fun H1 locs1 hP1 hD1 hS1 => ?_)
  rw [xh_put hD ha hq] at hP1 hD1
  exact kk H1 locs1 cells slots ls hP1 hD1 hS1 hc1 hs hl
theorem xr_aastN (C : XC p R s m args c D E A nL own cc KC KS) {Cn : String} (t : Nat) (ht : xs_ty[t]? = some (.object Cn)) {a n : Nat} {f : Nat → Option Nat} (ha : xh_at h a (.inl (E.1 t, n, .inr (.inr (.inr (.inr f)))))) {i : Int32} (hin : vp_in i n) {h1 : Hp} (hh : h1 = xh_set h a (.inl (E.1 t, n, .inr (.inr (.inr (.inr (va_up f i.toNatClampNeg none))))))) (d : decode cc pc = .ok (.aastore, 1))
    (kk : XW p l e R s m args below meth c Q D A KC KS nL h1 kc ks lv (pc + 1) st) : XW p l e R s m args below meth c Q D A KC KS nL h kc ks lv pc (.null :: .int i :: .ref a :: st) := by
  subst hh
  intro H locs cells slots ls hP hD hS hc1 hs hl
  obtain ⟨q, hq⟩ := xh_get ha
  refine va_astqN C.1.1 C.1.2 C.2.2.2.1 hP hD hS q t hq (xe_ty_at t ht) hin d (fun H1 locs1 hP1 hD1 hS1 => ?_)
  rw [xh_put hD ha hq] at hP1 hD1
  exact kk H1 locs1 cells slots ls hP1 hD1 hS1 hc1 hs hl
/-- a cast to the object's own class -/
theorem xr_cast (C : XC p R s m args c D E A nL own cc KC KS) {Cn : String} {T : u_T} {N ci idx a : Nat} {fs : List Value} (ha : xh_at h a (.inr (ci, fs))) (hc : vwCl[ci]? = some (Cn, T, N)) (h1 : Cond.classLink own idx Cn ∈ xw_tbl) (d : decode cc pc = .ok (.checkcast idx, 3))
    (kk : XW p l e R s m args below meth c Q D A KC KS nL h kc ks lv (pc + 3) (.ref a :: st)) : XW p l e R s m args below meth c Q D A KC KS nL h kc ks lv pc (.ref a :: st) := by
  intro H locs cells slots ls hP hD hS hc1 hs hl
  exact va_castS C.1.1 C.1.2 C.2.1.2 (C.2.2.1 _ h1) (C.2.2.2.1.1 ci _ hc).2 (xp_recv C hP ha hc) d (kk H locs cells slots ls hP hD hS hc1 hs hl)
theorem xr_castN (C : XC p R s m args c D E A nL own cc KC KS) {idx : Nat} (d : decode cc pc = .ok (.checkcast idx, 3)) (kk : XW p l e R s m args below meth c Q D A KC KS nL h kc ks lv (pc + 3) (.null :: st)) : XW p l e R s m args below meth c Q D A KC KS nL h kc ks lv pc (.null :: st) :=
  fun H locs cells slots ls hP hD hS hc1 hs hl => lv_castN C.1.1 C.1.2 d (kk H locs cells slots ls hP hD hS hc1 hs hl)
/-- Object() -/
theorem xr_obj (C : XC p R s m args c D E A nL own cc KC KS) {idx a : Nat} (h1 : Cond.methodLink own idx Lib.objectInit ∈ xw_tbl) (h2 : Cond.instanceMethod Lib.objectInit ∈ xw_tbl) (h3 : Cond.code Lib.objectInit ⟨#[0xb1]⟩ 1 none ∈ xw_tbl) (hR : 1 ≤ R.frames) (hL : 2 * 0 + (st.map fun v => v.category).sum + 12 ≤ R.locals) (d : decode cc pc = .ok (.invokespecial idx, 3))
    (kk : XW p l e R s m args below meth c Q D A KC KS nL h kc ks lv (pc + 3) st) : XW p l e R s m args below meth c Q D A KC KS nL h kc ks lv pc (.ref a :: st) := by
  intro H locs cells slots ls hP hD hS hc1 hs hl
  refine W.objInit C.1.1 C.1.2 C.2.1.2 (C.2.2.1 _ h1) (C.2.2.1 _ h2) (C.2.2.1 _ h3) rfl (by rw [C.2.1.1]; exact hl.1) rfl d hR hL ?_
  exact kk H locs cells slots ls hP hD hS hc1 hs hl
end XN
theorem xv_narO (n : String) (r : Option Nat) : narrow (.object n) (va_rf r) = va_rf r := by cases r <;> rfl
theorem xv_narA (t : FieldType) (r : Option Nat) : narrow (.array t) (va_rf r) = va_rf r := by cases r <;> rfl
theorem xv_fitO (n : String) (r : Option Nat) : fits (.object n) (va_rf r) = true := by cases r <;> rfl
theorem xv_fitA (t : FieldType) (r : Option Nat) : fits (.array t) (va_rf r) = true := by cases r <;> rfl
/-- the length of an array of the picture, or of a constant one -/
def xa_len (E : Ev) (h : Hp) (a : Nat) (x : Int32) : Prop := (∃ t ty y, xs_ty[t]? = some ty ∧ xh_at h a (.inl (E.1 t, y)) ∧ Int32.ofNat y.1 = x) ∨ (∃ i ty N f, xs_ro[i]? = some (i, ty, N, f) ∧ a = E.2.1 i ∧ Int32.ofNat N = x)
def xo_at (h : Hp) (a : Nat) : Prop := ∃ ci fs, 1 ≤ ci ∧ xh_at h a (.inr (ci, fs))

section XO
variable {p : Program} {l : Launch} {e : Env} {R : Room} {s : State} {m : MethodId} {args : Array Value} {below : List Frame} {meth : Method} {c : Code} {Q : State → Prop} {D : va_G} {E : Ev} {A : Nat → Prop} {KC KS nL : Nat} {own : String} {cc : ByteArray} {h : Hp} {kc ks : Nat} {lv : List (Nat × Value)} {pc : Nat} {st : List Value}
theorem xr_topi {x : Int32} (k : ∀ y : Int32, y = x → XW p l e R s m args below meth c Q D A KC KS nL h kc ks lv pc (.int y :: st)) : XW p l e R s m args below meth c Q D A KC KS nL h kc ks lv pc (.int x :: st) := k x rfl
theorem xr_topl {x : Int64} (k : ∀ y : Int64, y = x → XW p l e R s m args below meth c Q D A KC KS nL h kc ks lv pc (.long y :: st)) : XW p l e R s m args below meth c Q D A KC KS nL h kc ks lv pc (.long x :: st) := k x rfl
theorem xr_getS (C : XC p R s m args c D E A nL own cc KC KS) {Cn ref : String} {T : u_T} {N ci idx a : Nat} {fs : List Value} {v : Value} (k : Nat) (ha : xh_at h a (.inr (ci, fs))) (hv : fs[k]? = some v) (hc : vwCl[ci]? = some (Cn, T, N)) (hin : ∀ w ∈ u_ws Cn T N, w ∈ xw_tbl) (hk : k < N) (hw : Cond.fieldLink own idx ref (T k).2.1 (T k).2.2.1 ∈ xw_tbl) (hsm : Cond.sameField ref (T k).1 (T k).2.1 (T k).2.2.1 ∈ xw_tbl) (d : decode cc pc = .ok (.getfield idx, 3))
    (kk : XW p l e R s m args below meth c Q D A KC KS nL h kc ks lv (pc + 3) (v :: st)) : XW p l e R s m args below meth c Q D A KC KS nL h kc ks lv pc (.ref a :: st) := by
  intro H locs cells slots ls hP hD hS hc1 hs1 hl
  obtain ⟨q, hq⟩ := xh_get ha
  exact va_get C.1.1 C.1.2 C.2.2.1 hin C.2.1.2 C.2.2.2.1 hP q hq hc k hk (C.2.2.1 _ hw) (fun x h9 => u_same (C.2.2.1 _ hsm) x h9) hv d (kk H locs cells slots ls hP hD hS hc1 hs1 hl)
theorem xr_putS (C : XC p R s m args c D E A nL own cc KC KS) {Cn ref : String} {T : u_T} {N ci idx a : Nat} {fs : List Value} {v : Value} (k : Nat) (ty : FieldType) (ty0 : Nat → FieldType) (hty : ∀ k, k < N → parseFieldDescriptor (T k).2.2.1 = some (ty0 k)) (hnm : ∀ a, a < N → ∀ b, b < N → a ≠ b → (T a).2.1 ≠ (T b).2.1) (ha : xh_at h a (.inr (ci, fs))) (hlen : k < fs.length) (hc : vwCl[ci]? = some (Cn, T, N)) (hin : ∀ w ∈ u_ws Cn T N, w ∈ xw_tbl) (hk : k < N) (hw : Cond.fieldLink own idx ref (T k).2.1 (T k).2.2.1 ∈ xw_tbl) (hsm : Cond.sameField ref (T k).1 (T k).2.1 (T k).2.2.1 ∈ xw_tbl) (hfin : (T k).2.2.2 = false) (hd : parseFieldDescriptor (T k).2.2.1 = some ty) (hn : narrow ty v = v) (hfit : fits ty v = true) {h1 : Hp} (hh : h1 = xh_set h a (.inr (ci, fs.set k v))) (d : decode cc pc = .ok (.putfield idx, 3))
    (kk : XW p l e R s m args below meth c Q D A KC KS nL h1 kc ks lv (pc + 3) st) : XW p l e R s m args below meth c Q D A KC KS nL h kc ks lv pc (v :: .ref a :: st) := by
  subst hh
  intro H locs cells slots ls hP hD hS hc1 hs1 hl
  obtain ⟨q, hq⟩ := xh_get ha
  refine va_put C.1.1 C.1.2 C.2.2.1 hin ty0 hty hnm C.2.1.2 C.2.2.2.1 hP hD hS q hq hc k hk (C.2.2.1 _ hw) (fun x h9 => u_same (C.2.2.1 _ hsm) x h9) hfin hd hn hfit hlen d (fun H1 locs1 hP1 hD1 hS1 => ?_)
  rw [xh_put hD ha hq] at hP1 hD1
  exact kk H1 locs1 cells slots ls hP1 hD1 hS1 hc1 hs1 hl
theorem xr_getsN (C : XC p R s m args c D E A nL own cc KC KS) {idx : Nat} {host : String} (i : Nat) {q : String × String × String} (hq : xs_st[i]? = some q) (hw : Cond.fieldLinkNest own idx q.1 q.2.1 q.2.2 host ∈ xs_nw) (d : decode cc pc = .ok (.getstatic idx, 3))
    (kk : XW p l e R s m args below meth c Q D A KC KS nL h kc ks lv (pc + 3) (.ref (E.2.1 i) :: st)) : XW p l e R s m args below meth c Q D A KC KS nL h kc ks lv pc st := by
  intro H locs cells slots ls hP hD hS hc1 hs1 hl
  exact va_getsN C.1.1 C.1.2 (C.2.2.2.2.1.2.1 i q hq) hS C.2.1.2 (va_Nw.use rfl (C.2.2.2.2.1.2.2.2.2.2 _ hw)) (fun _ h9 => h9) d (kk H locs cells slots ls hP hD hS hc1 hs1 hl)
theorem xr_ldcM (i : Nat) {Cn : String} (hq : xs_mi[i]? = some Cn) (C : XC p R s m args c D E A nL own cc KC KS) {idx : Nat} (hw : Cond.classLink own idx Cn ∈ xw_tbl) (d : decode cc pc = .ok (.ldc idx, 2))
    (kk : XW p l e R s m args below meth c Q D A KC KS nL h kc ks lv (pc + 2) (.ref (E.2.2 i) :: st)) : XW p l e R s m args below meth c Q D A KC KS nL h kc ks lv pc st := by
  intro H locs cells slots ls hP hD hS hc1 hs1 hl
  exact va_ldcM C.1.1 C.1.2 C.2.1.2 (C.2.2.1 _ hw) (C.2.2.2.2.1.2.2.2.1 i _ hq) d (kk H locs cells slots ls hP hD hS hc1 hs1 hl)
theorem xr_alenX (C : XC p R s m args c D E A nL own cc KC KS) {a : Nat} {x : Int32} (hx : xa_len E h a x) (d : decode cc pc = .ok (.arraylength, 1))
    (kk : XW p l e R s m args below meth c Q D A KC KS nL h kc ks lv (pc + 1) (.int x :: st)) : XW p l e R s m args below meth c Q D A KC KS nL h kc ks lv pc (.ref a :: st) := by
  rcases hx with ⟨t, ty, y, ht, ha, hv⟩ | ⟨i, ty, N, f, hq, rfl, hv⟩
  · exact xr_alen C t ht ha hv d kk
  · exact xr_rolen C i hq hv d kk
theorem xr_castA (C : XC p R s m args c D E A nL own cc KC KS) (t : Nat) {ty : FieldType} (ht : xs_ty[t]? = some ty) {nm : String} {idx a : Nat} {x : vp_A} (ha : xh_at h a (.inl (E.1 t, x))) (hnm : ∀ cA : ClassId, va_RA s cA ty → s.vm.findClass nm = some cA) (hw : Cond.classLink own idx nm ∈ xw_tbl) (d : decode cc pc = .ok (.checkcast idx, 3))
    (kk : XW p l e R s m args below meth c Q D A KC KS nL h kc ks lv (pc + 3) (.ref a :: st)) : XW p l e R s m args below meth c Q D A KC KS nL h kc ks lv pc (.ref a :: st) := by
  intro H locs cells slots ls hP hD hS hc1 hs1 hl
  obtain ⟨q, hq⟩ := xh_get ha
  exact va_castA C.1.1 C.1.2 C.2.1.2 (C.2.2.1 _ hw) hP q hq (hnm _ (C.2.2.2.1.2 t _ (xe_ty_at t ht)).2) d (kk H locs cells slots ls hP hD hS hc1 hs1 hl)
theorem xr_any (C : XC p R s m args c D E A nL own cc KC KS) {H : Heap} (hP : va_P D vwCl (va_pl h.1 h.2) H) {a : Nat} (ha : xo_at h a) : va_Any "java/lang/Object" s H a := by
  obtain ⟨ci, fs, h1, ha⟩ := ha
  obtain ⟨q, hq⟩ := xh_get ha
  obtain ⟨r, hr, -⟩ := hP q _ hq
  have hm : Cond.castable r.1 "java/lang/Object" ∈ xs_nw := by
    match ci, h1, hr with
    | 1, _, hr => cases hr; decide +kernel
    | 2, _, hr => cases hr; decide +kernel
    | 3, _, hr => cases hr; decide +kernel
    | 4, _, hr => cases hr; decide +kernel
    | 5, _, hr => cases hr; decide +kernel
    | 6, _, hr => cases hr; decide +kernel
    | 7, _, hr => cases hr; decide +kernel
    | 8, _, hr => cases hr; decide +kernel
    | 9, _, hr => cases hr; decide +kernel
    | 10, _, hr => cases hr; decide +kernel
    | 11, _, hr => cases hr; decide +kernel
    | 12, _, hr => cases hr; decide +kernel
    | 13, _, hr => cases hr; decide +kernel
    | k + 14, _, hr => simp [vwCl] at hr
  exact va_rAny C.2.2.2.1 hP hq hr (vb_asgC (C.2.2.2.2.1.2.2.2.2.2 _ hm))
theorem xr_aastO (C : XC p R s m args c D E A nL own cc KC KS) (t : Nat) (ht : xs_ty[t]? = some (.object "java/lang/Object")) {a n v : Nat} {f : Nat → Option Nat} (ha : xh_at h a (.inl (E.1 t, n, .inr (.inr (.inr (.inr f)))))) (hv : xo_at h v) {i : Int32} (hin : vp_in i n) {h1 : Hp} (hh : h1 = xh_set h a (.inl (E.1 t, n, .inr (.inr (.inr (.inr (va_up f i.toNatClampNeg (some v)))))))) (d : decode cc pc = .ok (.aastore, 1))
    (kk : XW p l e R s m args below meth c Q D A KC KS nL h1 kc ks lv (pc + 1) st) : XW p l e R s m args below meth c Q D A KC KS nL h kc ks lv pc (.ref v :: .int i :: .ref a :: st) := by
  subst hh
  intro H locs cells slots ls hP hD hS hc1 hs1 hl
  obtain ⟨q, hq⟩ := xh_get ha
  refine va_astqM C.1.1 C.1.2 C.2.2.2.1 hP hD hS q t hq (xe_ty_at t ht) (xr_any C hP hv) hin d (fun H1 locs1 hP1 hD1 hS1 => ?_)
  rw [xh_put hD ha hq] at hP1 hD1
  exact kk H1 locs1 cells slots ls hP1 hD1 hS1 hc1 hs1 hl
theorem xr_getC (C : XC p R s m args c D E A nL own cc KC KS) {a idx : Nat} {x : vp_A} (ha : xh_at h a (.inl (E.1 4, x))) (hw : Cond.methodLink own idx ⟨"java/lang/Object", "getClass", "()Ljava/lang/Class;"⟩ ∈ xw_tbl) (w1 : Cond.declares ⟨"java/lang/Object", "getClass", "()Ljava/lang/Class;"⟩ ∈ xs_nw) (w2 : Cond.selects "[Ljava/lang/Object;" ⟨"java/lang/Object", "getClass", "()Ljava/lang/Class;"⟩ ⟨"java/lang/Object", "getClass", "()Ljava/lang/Class;"⟩ ∈ xw_tbl) (w3 : Cond.instanceMethod ⟨"java/lang/Object", "getClass", "()Ljava/lang/Class;"⟩ ∈ xw_tbl) (w4 : Cond.native ⟨"java/lang/Object", "getClass", "()Ljava/lang/Class;"⟩ ∈ xw_tbl) (hF : 1 ≤ R.frames) (hL : (st.map fun v => v.category).sum + 14 ≤ R.locals) (d : decode cc pc = .ok (.invokevirtual idx, 3))
    (kk : XW p l e R s m args below meth c Q D A KC KS nL h kc ks lv (pc + 3) (.ref (E.2.2 0) :: st)) : XW p l e R s m args below meth c Q D A KC KS nL h kc ks lv pc (.ref a :: st) := by
  intro H locs cells slots ls hP hD hS hc1 hs1 hl
  obtain ⟨q, hq⟩ := xh_get ha
  have hcA : s.vm.findClass "[Ljava/lang/Object;" = some (E.1 4) := va_nmO (C.2.2.2.1.2 4 _ (xe_ty_at 4 rfl)).2 (by decide +kernel)
  have hcell : H[a]? = some (vp_cell (E.1 4) x) := hP q _ hq
  exact va_getC C.1.1 C.1.2 (by rw [C.2.1.1]; exact hl.1.symm) C.2.1.2 (C.2.2.1 _ hw) (va_Nw.use rfl (C.2.2.2.2.1.2.2.2.2.2 _ w1)) (C.2.2.1 _ w2) (C.2.2.1 _ w3) (C.2.2.1 _ w4) (C.2.2.2.2.1.2.2.2.1 0 _ rfl) ⟨_, hcell, by obtain ⟨n, f | f | f | f | f⟩ := x <;> rfl, by rw [hcA]; obtain ⟨n, f | f | f | f | f⟩ := x <;> rfl⟩ hF hL d (kk H locs cells slots ls hP hD hS hc1 hs1 hl)
theorem xr_clL (C : XC p R s m args c D E A nL own cc KC KS) {a idx n kc1 ks1 : Nat} {f : Nat → Int64} (ha : xh_at h a (.inl (E.1 1, n, .inr (.inl f)))) (hw : Cond.methodLink own idx ⟨"[J", "clone", "()Ljava/lang/Object;"⟩ ∈ xw_tbl) (w1 : Cond.sameMethod "[J" "java/lang/Object" "clone" "()Ljava/lang/Object;" ∈ xw_tbl) (w2 : Cond.native ⟨"java/lang/Object", "clone", "()Ljava/lang/Object;"⟩ ∈ xw_tbl) (w3 : Cond.instanceMethod ⟨"java/lang/Object", "clone", "()Ljava/lang/Object;"⟩ ∈ xw_tbl) (w4 : Cond.selects "[J" ⟨"[J", "clone", "()Ljava/lang/Object;"⟩ ⟨"java/lang/Object", "clone", "()Ljava/lang/Object;"⟩ ∈ xw_tbl) (w5 : Cond.castable "[J" "java/lang/Cloneable" ∈ xs_nw) (hkc : kc = 1 + kc1) (hks : ks = n + ks1) (hF : 1 ≤ R.frames) (hL : (st.map fun v => v.category).sum + 14 ≤ R.locals) (d : decode cc pc = .ok (.invokevirtual idx, 3))
    (kk : ∀ (q : Nat) (h1 : Hp), q ∉ h.1 → h1 = xh_new h q (.inl (E.1 1, n, .inr (.inl f))) → XW p l e R s m args below meth c Q D A KC KS nL h1 kc1 ks1 lv (pc + 3) (.ref q :: st)) : XW p l e R s m args below meth c Q D A KC KS nL h kc ks lv pc (.ref a :: st) := by
  intro H locs cells slots ls hP hD hS hc1 hs1 hl
  obtain ⟨q, hq⟩ := xh_get ha
  have hRc := C.2.2.2.2.2
  refine va_clone (ty := .long) C.1.1 C.1.2 (by rw [C.2.1.1]; exact hl.1.symm) C.2.1.2 (C.2.2.1 _ hw) (C.2.2.1 _ w1) (C.2.2.1 _ w2) (C.2.2.1 _ w3) (C.2.2.1 _ w4) (C.2.2.2.2.1.2.2.2.2.2 _ w5) C.2.2.2.1 hP hD hS C.2.2.2.2.1.1 q 1 hq (xe_ty_at 1 rfl) (va_nm_long (C.2.2.2.1.2 1 _ (xe_ty_at 1 rfl)).2) (va_fit (fun _ _ => rfl)) hF hL (by omega) (by show slots + n ≤ _; omega) d (fun q H1 hK1 hP1 hD1 hS1 => ?_)
  obtain ⟨hn, he⟩ := xh_push (D := D) (H1 := H1) hD1
  rw [he] at hP1 hD1
  exact kk q _ hn rfl H1 locs _ _ ls hP1 hD1 hS1 (by omega) (by show slots + n + ks1 = KS; omega) hl
theorem xr_newa_int (C : XC p R s m args c D E A nL own cc KC KS) (t : Nat) (ht : xs_ty[t]? = some .int) (hw : Cond.arrayClass .int ∈ xw_tbl) {n : Int32} {N kc1 ks1 : Nat} (hn : ¬ n < 0) (hN : n.toNatClampNeg = N) (hb : N * 4 ≤ 536870912) (hkc : kc = 1 + kc1) (hks : ks = N + ks1) (d : decode cc pc = .ok (.newarray .int, 2))
    (kk : ∀ (q : Nat) (h1 : Hp), q ∉ h.1 → h1 = xh_new h q (.inl (E.1 t, (N, .inl (fun _ => 0)))) → XW p l e R s m args below meth c Q D A KC KS nL h1 kc1 ks1 lv (pc + 2) (.ref q :: st)) : XW p l e R s m args below meth c Q D A KC KS nL h kc ks lv pc (.int n :: st) :=
  xr_newa (aty := .int) (a0 := (N, .inl (fun _ => 0))) C t ht hw rfl (fun cA => rfl) hn hN hb hkc hks d kk
theorem xr_newa_long (C : XC p R s m args c D E A nL own cc KC KS) (t : Nat) (ht : xs_ty[t]? = some .long) (hw : Cond.arrayClass .long ∈ xw_tbl) {n : Int32} {N kc1 ks1 : Nat} (hn : ¬ n < 0) (hN : n.toNatClampNeg = N) (hb : N * 8 ≤ 536870912) (hkc : kc = 1 + kc1) (hks : ks = N + ks1) (d : decode cc pc = .ok (.newarray .long, 2))
    (kk : ∀ (q : Nat) (h1 : Hp), q ∉ h.1 → h1 = xh_new h q (.inl (E.1 t, (N, .inr (.inl (fun _ => 0))))) → XW p l e R s m args below meth c Q D A KC KS nL h1 kc1 ks1 lv (pc + 2) (.ref q :: st)) : XW p l e R s m args below meth c Q D A KC KS nL h kc ks lv pc (.int n :: st) :=
  xr_newa (aty := .long) (a0 := (N, .inr (.inl (fun _ => 0)))) C t ht hw rfl (fun cA => rfl) hn hN hb hkc hks d kk
theorem xr_newa_boolean (C : XC p R s m args c D E A nL own cc KC KS) (t : Nat) (ht : xs_ty[t]? = some .boolean) (hw : Cond.arrayClass .boolean ∈ xw_tbl) {n : Int32} {N kc1 ks1 : Nat} (hn : ¬ n < 0) (hN : n.toNatClampNeg = N) (hb : N * 1 ≤ 536870912) (hkc : kc = 1 + kc1) (hks : ks = N + ks1) (d : decode cc pc = .ok (.newarray .boolean, 2))
    (kk : ∀ (q : Nat) (h1 : Hp), q ∉ h.1 → h1 = xh_new h q (.inl (E.1 t, (N, .inl (fun _ => 0)))) → XW p l e R s m args below meth c Q D A KC KS nL h1 kc1 ks1 lv (pc + 2) (.ref q :: st)) : XW p l e R s m args below meth c Q D A KC KS nL h kc ks lv pc (.int n :: st) :=
  xr_newa (aty := .boolean) (a0 := (N, .inl (fun _ => 0))) C t ht hw rfl (fun cA => rfl) hn hN hb hkc hks d kk
def cpI (E : Ev) (h : Hp) (t a b : Nat) (sp dp n : Int32) (P : Hp → Prop) : Prop := ∃ (n0 n1 : Nat) (f g : Nat → Int32), xh_at h a (.inl (E.1 t, n0, .inl f)) ∧ xh_at h b (.inl (E.1 t, n1, .inl g)) ∧ ¬ sp < 0 ∧ ¬ dp < 0 ∧ ¬ n < 0 ∧ sp.toNatClampNeg + n.toNatClampNeg ≤ n0 ∧ dp.toNatClampNeg + n.toNatClampNeg ≤ n1 ∧ ∀ h1, h1 = xh_set h b (.inl (E.1 t, n1, .inl (va_cpy f g sp.toNatClampNeg dp.toNatClampNeg n.toNatClampNeg))) → P h1
theorem xr_cpI (C : XC p R s m args c D E A nL own cc KC KS) (t : Nat) (ht : xs_ty[t]? = some .int) {idx a b : Nat} {sp dp n : Int32} {P : Hp → Prop} (w1 : Cond.methodLink own idx arraycopyName ∈ xw_tbl) (w2 : Cond.native arraycopyName ∈ xw_tbl) (w3 : Cond.static arraycopyName ∈ xw_tbl) (w4 : Cond.initialized "java/lang/System" ∈ xw_tbl) (hm : cpI E h t a b sp dp n P) (hF : 1 ≤ R.frames) (hL : (st.map fun v => v.category).sum + (nativeFrameWords "java/lang/System" "arraycopy" 5 + 11) ≤ R.locals) (d : decode cc pc = .ok (.invokestatic idx, 3))
    (kk : ∀ h1 : Hp, P h1 → XW p l e R s m args below meth c Q D A KC KS nL h1 kc ks lv (pc + 3) st) : XW p l e R s m args below meth c Q D A KC KS nL h kc ks lv pc (.int n :: .int dp :: .ref b :: .int sp :: .ref a :: st) := by
  intro H locs cells slots ls hP hD hS hc1 hs1 hl
  obtain ⟨n0, n1, f, g, e1, e2, e3, e4, e5, e6, e7, hm⟩ := hm
  obtain ⟨q0, hq0⟩ := xh_get e1
  obtain ⟨q1, hq1⟩ := xh_get e2
  refine va_copyi C.1.1 C.1.2 (by rw [C.2.1.1]; exact hl.1.symm) C.2.1.2 (C.2.2.1 _ w1) (C.2.2.1 _ w2) (C.2.2.1 _ w3) (C.2.2.1 _ w4) C.2.2.2.1 hP hD hS q0 q1 t t hq0 hq1 (xe_ty_at t ht) (xe_ty_at t ht) rfl e3 e4 e5 e6 e7 (fun _ _ => rfl) hF hL d (fun H1 locs1 hP1 hD1 hS1 => ?_)
  rw [xh_put hD e2 hq1] at hP1 hD1
  exact kk _ (hm _ rfl) H1 locs1 cells slots ls hP1 hD1 hS1 hc1 hs1 hl
def cpL (E : Ev) (h : Hp) (t a b : Nat) (sp dp n : Int32) (P : Hp → Prop) : Prop := ∃ (n0 n1 : Nat) (f g : Nat → Int64), xh_at h a (.inl (E.1 t, n0, .inr (.inl f))) ∧ xh_at h b (.inl (E.1 t, n1, .inr (.inl g))) ∧ ¬ sp < 0 ∧ ¬ dp < 0 ∧ ¬ n < 0 ∧ sp.toNatClampNeg + n.toNatClampNeg ≤ n0 ∧ dp.toNatClampNeg + n.toNatClampNeg ≤ n1 ∧ ∀ h1, h1 = xh_set h b (.inl (E.1 t, n1, .inr (.inl (va_cpy f g sp.toNatClampNeg dp.toNatClampNeg n.toNatClampNeg)))) → P h1
theorem xr_cpL (C : XC p R s m args c D E A nL own cc KC KS) (t : Nat) (ht : xs_ty[t]? = some .long) {idx a b : Nat} {sp dp n : Int32} {P : Hp → Prop} (w1 : Cond.methodLink own idx arraycopyName ∈ xw_tbl) (w2 : Cond.native arraycopyName ∈ xw_tbl) (w3 : Cond.static arraycopyName ∈ xw_tbl) (w4 : Cond.initialized "java/lang/System" ∈ xw_tbl) (hm : cpL E h t a b sp dp n P) (hF : 1 ≤ R.frames) (hL : (st.map fun v => v.category).sum + (nativeFrameWords "java/lang/System" "arraycopy" 5 + 11) ≤ R.locals) (d : decode cc pc = .ok (.invokestatic idx, 3))
    (kk : ∀ h1 : Hp, P h1 → XW p l e R s m args below meth c Q D A KC KS nL h1 kc ks lv (pc + 3) st) : XW p l e R s m args below meth c Q D A KC KS nL h kc ks lv pc (.int n :: .int dp :: .ref b :: .int sp :: .ref a :: st) := by
  intro H locs cells slots ls hP hD hS hc1 hs1 hl
  obtain ⟨n0, n1, f, g, e1, e2, e3, e4, e5, e6, e7, hm⟩ := hm
  obtain ⟨q0, hq0⟩ := xh_get e1
  obtain ⟨q1, hq1⟩ := xh_get e2
  refine va_copyl C.1.1 C.1.2 (by rw [C.2.1.1]; exact hl.1.symm) C.2.1.2 (C.2.2.1 _ w1) (C.2.2.1 _ w2) (C.2.2.1 _ w3) (C.2.2.1 _ w4) C.2.2.2.1 hP hD hS q0 q1 t t hq0 hq1 (xe_ty_at t ht) (xe_ty_at t ht) rfl e3 e4 e5 e6 e7 (fun _ _ => rfl) hF hL d (fun H1 locs1 hP1 hD1 hS1 => ?_)
  rw [xh_put hD e2 hq1] at hP1 hD1
  exact kk _ (hm _ rfl) H1 locs1 cells slots ls hP1 hD1 hS1 hc1 hs1 hl
def cpR (E : Ev) (h : Hp) (t a b : Nat) (sp dp n : Int32) (P : Hp → Prop) : Prop := ∃ (n0 n1 : Nat) (f g : Nat → Option Nat), xh_at h a (.inl (E.1 t, n0, .inr (.inr (.inr (.inr f))))) ∧ xh_at h b (.inl (E.1 t, n1, .inr (.inr (.inr (.inr g))))) ∧ ¬ sp < 0 ∧ ¬ dp < 0 ∧ ¬ n < 0 ∧ sp.toNatClampNeg + n.toNatClampNeg ≤ n0 ∧ dp.toNatClampNeg + n.toNatClampNeg ≤ n1 ∧ (∀ i : Nat, i < n.toNatClampNeg → ∀ y : Nat, f (sp.toNatClampNeg + i) = some y → xo_at h y) ∧ ∀ h1, h1 = xh_set h b (.inl (E.1 t, n1, .inr (.inr (.inr (.inr (va_cpy f g sp.toNatClampNeg dp.toNatClampNeg n.toNatClampNeg)))))) → P h1
theorem xr_cpR (C : XC p R s m args c D E A nL own cc KC KS) (t : Nat) (ht : xs_ty[t]? = some (.object "java/lang/Object")) {idx a b : Nat} {sp dp n : Int32} {P : Hp → Prop} (w1 : Cond.methodLink own idx arraycopyName ∈ xw_tbl) (w2 : Cond.native arraycopyName ∈ xw_tbl) (w3 : Cond.static arraycopyName ∈ xw_tbl) (w4 : Cond.initialized "java/lang/System" ∈ xw_tbl) (hm : cpR E h t a b sp dp n P) (hF : 1 ≤ R.frames) (hL : (st.map fun v => v.category).sum + (nativeFrameWords "java/lang/System" "arraycopy" 5 + 11) ≤ R.locals) (d : decode cc pc = .ok (.invokestatic idx, 3))
    (kk : ∀ h1 : Hp, P h1 → XW p l e R s m args below meth c Q D A KC KS nL h1 kc ks lv (pc + 3) st) : XW p l e R s m args below meth c Q D A KC KS nL h kc ks lv pc (.int n :: .int dp :: .ref b :: .int sp :: .ref a :: st) := by
  intro H locs cells slots ls hP hD hS hc1 hs1 hl
  obtain ⟨n0, n1, f, g, e1, e2, e3, e4, e5, e6, e7, e8, hm⟩ := hm
  obtain ⟨q0, hq0⟩ := xh_get e1
  obtain ⟨q1, hq1⟩ := xh_get e2
  refine va_copyM C.1.1 C.1.2 (by rw [C.2.1.1]; exact hl.1.symm) C.2.1.2 (C.2.2.1 _ w1) (C.2.2.1 _ w2) (C.2.2.1 _ w3) (C.2.2.1 _ w4) C.2.2.2.1 hP hD hS q0 q1 t t hq0 hq1 (xe_ty_at t ht) (xe_ty_at t ht) e3 e4 e5 e6 e7 (fun i hi y hy => xr_any C hP (e8 i hi y hy)) hF hL d (fun H1 locs1 hP1 hD1 hS1 => ?_)
  rw [xh_put hD e2 hq1] at hP1 hD1
  exact kk _ (hm _ rfl) H1 locs1 cells slots ls hP1 hD1 hS1 hc1 hs1 hl
theorem xr_mmax (C : XC p R s m args c D E A nL own cc KC KS) {idx : Nat} {x y : Int32} (w1 : Cond.methodLink own idx Lib.Math.max.name ∈ xw_tbl) (w2 : Cond.static Lib.Math.max.name ∈ xw_tbl) (w3 : Cond.initialized "java/lang/Math" ∈ xw_tbl) (w4 : Cond.code Lib.Math.max.name Lib.Math.max.code 2 (some .int) ∈ xw_tbl) (hF : 1 ≤ R.frames) (hL : (st.map fun v => v.category).sum + 13 ≤ R.locals) (d : decode cc pc = .ok (.invokestatic idx, 3))
    (kk : ∀ z : Int32, z = (if x < y then y else x) → XW p l e R s m args below meth c Q D A KC KS nL h kc ks lv (pc + 3) (.int z :: st)) : XW p l e R s m args below meth c Q D A KC KS nL h kc ks lv pc (.int y :: .int x :: st) := by
  intro H locs cells slots ls hP hD hS hc1 hs1 hl
  have hRc := C.2.2.2.2.2
  exact va_mmax C.1.1 C.1.2 (by rw [C.2.1.1]; exact hl.1.symm) C.2.1.2 (C.2.2.1 _ w1) (C.2.2.1 _ w2) (C.2.2.1 _ w3) (C.2.2.1 _ w4) hF hL (by omega) (by omega) d (kk _ rfl H locs cells slots ls hP hD hS hc1 hs1 hl)
theorem xr_mmin (C : XC p R s m args c D E A nL own cc KC KS) {idx : Nat} {x y : Int32} (w1 : Cond.methodLink own idx Lib.Math.min.name ∈ xw_tbl) (w2 : Cond.static Lib.Math.min.name ∈ xw_tbl) (w3 : Cond.initialized "java/lang/Math" ∈ xw_tbl) (w4 : Cond.code Lib.Math.min.name Lib.Math.min.code 2 (some .int) ∈ xw_tbl) (hF : 1 ≤ R.frames) (hL : (st.map fun v => v.category).sum + 13 ≤ R.locals) (d : decode cc pc = .ok (.invokestatic idx, 3))
    (kk : ∀ z : Int32, z = (if y < x then y else x) → XW p l e R s m args below meth c Q D A KC KS nL h kc ks lv (pc + 3) (.int z :: st)) : XW p l e R s m args below meth c Q D A KC KS nL h kc ks lv pc (.int y :: .int x :: st) := by
  intro H locs cells slots ls hP hD hS hc1 hs1 hl
  have hRc := C.2.2.2.2.2
  exact va_mmin C.1.1 C.1.2 (by rw [C.2.1.1]; exact hl.1.symm) C.2.1.2 (C.2.2.1 _ w1) (C.2.2.1 _ w2) (C.2.2.1 _ w3) (C.2.2.1 _ w4) hF hL (by omega) (by omega) d (kk _ rfl H locs cells slots ls hP hD hS hc1 hs1 hl)
end XO
