/-! what the rows take as fixed -/
def xs_ty : List FieldType := [.int, .long, .boolean, .object "CardPayments$Message", .object "java/lang/Object"]
def xs_st : List (String × String × String) := [("CardPayments", "FIELDS", "[I"), ("CardPayments", "LENGTHS", "[I"), ("java/util/ArrayList", "DEFAULTCAPACITY_EMPTY_ELEMENTDATA", "[Ljava/lang/Object;")]
def xs_F : List Int32 := [0, 16, 262, 512, 64, 184, 452, 2430, 3334, 1280, 384, 2430]
def xs_L : List Int32 := [0, 1, 2, 5, 4, 1, 1, 1, 4, 2, 1, 4]
def xs_ro : List (Nat × FieldType × Nat × (Nat → Value)) := [(0, .int, 12, fun j => .int (xs_F.getD j 0)), (1, .int, 12, fun j => .int (xs_L.getD j 0)), (2, .object "java/lang/Object", 0, fun _ => .null)]
def xs_mi : List String := ["[Ljava/lang/Object;"]
def xs_ao : List String := ["CardPayments$Message", "java/lang/Object"]
def xs_nw : List Cond := [.methodLinkNest "CardPayments" 9 ⟨"CardPayments$World", "<init>", "()V"⟩ "CardPayments", .methodLinkNest "CardPayments$World" 11 ⟨"CardPayments$Wires", "<init>", "()V"⟩ "CardPayments", .methodLinkNest "CardPayments$World" 20 ⟨"CardPayments$Seals", "<init>", "()V"⟩ "CardPayments", .methodLinkNest "CardPayments$World" 43 ⟨"CardPayments$Content", "<init>", "()V"⟩ "CardPayments", .methodLinkNest "CardPayments$Card" 20 ⟨"CardPayments$Payment", "<init>", "()V"⟩ "CardPayments", .methodLinkNest "CardPayments$Terminal" 24 ⟨"CardPayments$Payment", "<init>", "()V"⟩ "CardPayments", .methodLinkNest "CardPayments$Wires" 21 ⟨"CardPayments$Message", "<init>", "()V"⟩ "CardPayments", .fieldLinkNest "CardPayments$Message" 68 "CardPayments" "FIELDS" "[I" "CardPayments", .fieldLinkNest "CardPayments$Message" 48 "CardPayments" "LENGTHS" "[I" "CardPayments", .methodLinkNest "CardPayments$Host" 124 ⟨"CardPayments$Payment", "<init>", "()V"⟩ "CardPayments", .castable "[J" "java/lang/Cloneable", .declares ⟨"java/lang/Object", "getClass", "()Ljava/lang/Class;"⟩, .castable "CardPayments" "java/lang/Object", .castable "CardPayments$World" "java/lang/Object", .castable "CardPayments$Wires" "java/lang/Object", .castable "CardPayments$Seals" "java/lang/Object", .castable "CardPayments$Content" "java/lang/Object", .castable "CardPayments$Host" "java/lang/Object", .castable "CardPaymentsModel" "java/lang/Object", .castable "CardPayments$Card" "java/lang/Object", .castable "CardPayments$Payment" "java/lang/Object", .castable "CardPayments$Account" "java/lang/Object", .castable "CardPayments$Terminal" "java/lang/Object", .castable "CardPayments$Message" "java/lang/Object", .castable "CardPayments$Seal" "java/lang/Object"]
theorem xs_nw_on : ∀ w ∈ xs_nw, w.onTables = true := by decide +kernel
theorem xs_nw_warm : ∀ w ∈ xs_nw, ∀ {s U : State}, s.WarmedH U.vm → va_Nw w s → va_Nw w U := by
  intro w hw s U hW hz
  simp only [xs_nw, List.mem_cons, List.not_mem_nil, or_false] at hw
  rcases hw with rfl | rfl | rfl | rfl | rfl | rfl | rfl | rfl | rfl | rfl | rfl | rfl | rfl | rfl | rfl | rfl | rfl | rfl | rfl | rfl | rfl | rfl | rfl | rfl | rfl
  · exact va_Nw.warmM hW hz
  · exact va_Nw.warmM hW hz
  · exact va_Nw.warmM hW hz
  · exact va_Nw.warmM hW hz
  · exact va_Nw.warmM hW hz
  · exact va_Nw.warmM hW hz
  · exact va_Nw.warmM hW hz
  · exact va_Nw.warmF hW hz
  · exact va_Nw.warmF hW hz
  · exact va_Nw.warmM hW hz
  · exact va_Nw.warmC hW hz
  · exact va_Nw.warmD hW hz
  · exact va_Nw.warmC hW hz
  · exact va_Nw.warmC hW hz
  · exact va_Nw.warmC hW hz
  · exact va_Nw.warmC hW hz
  · exact va_Nw.warmC hW hz
  · exact va_Nw.warmC hW hz
  · exact va_Nw.warmC hW hz
  · exact va_Nw.warmC hW hz
  · exact va_Nw.warmC hW hz
  · exact va_Nw.warmC hW hz
  · exact va_Nw.warmC hW hz
  · exact va_Nw.warmC hW hz
  · exact va_Nw.warmC hW hz
def xw_tbl : List Cond := lw_tbl.filter goodWord
theorem xw_good : ∀ w ∈ xw_tbl, (w.onTables && w.keeps) = true ∨ ∃ ty, w = .arrayClass ty := fun w hw => good_of_word (List.mem_filter.mp hw).2
theorem xw_at {w : Cond} (i : Nat) (h : tables_1[i]? = some w) (g : goodWord w = true) : w ∈ xw_tbl := List.mem_filter.mpr ⟨List.mem_append_right _ (List.mem_of_getElem? h), g⟩
theorem xw_at1 {w : Cond} (i : Nat) (h : tables_1_1[i]? = some w) (g : goodWord w = true) : w ∈ xw_tbl := List.mem_filter.mpr ⟨List.mem_append_right _ (List.mem_append_left _ (List.mem_of_getElem? h)), g⟩
theorem xw_at2 {w : Cond} (i : Nat) (h : tables_1_2[i]? = some w) (g : goodWord w = true) : w ∈ xw_tbl := List.mem_filter.mpr ⟨List.mem_append_right _ (List.mem_append_right _ (List.mem_append_left _ (List.mem_of_getElem? h))), g⟩
theorem xw_at3 {w : Cond} (i : Nat) (h : tables_1_3[i]? = some w) (g : goodWord w = true) : w ∈ xw_tbl := List.mem_filter.mpr ⟨List.mem_append_right _ (List.mem_append_right _ (List.mem_append_right _ (List.mem_append_left _ (List.mem_of_getElem? h)))), g⟩
theorem xw_at4 {w : Cond} (i : Nat) (h : tables_1_4[i]? = some w) (g : goodWord w = true) : w ∈ xw_tbl := List.mem_filter.mpr ⟨List.mem_append_right _ (List.mem_append_right _ (List.mem_append_right _ (List.mem_append_right _ (List.mem_append_left _ (List.mem_of_getElem? h))))), g⟩
theorem xw_at5 {w : Cond} (i : Nat) (h : tables_1_5[i]? = some w) (g : goodWord w = true) : w ∈ xw_tbl := List.mem_filter.mpr ⟨List.mem_append_right _ (List.mem_append_right _ (List.mem_append_right _ (List.mem_append_right _ (List.mem_append_right _ (List.mem_append_left _ (List.mem_of_getElem? h)))))), g⟩
theorem xw_at6 {w : Cond} (i : Nat) (h : tables_1_6[i]? = some w) (g : goodWord w = true) : w ∈ xw_tbl := List.mem_filter.mpr ⟨List.mem_append_right _ (List.mem_append_right _ (List.mem_append_right _ (List.mem_append_right _ (List.mem_append_right _ (List.mem_append_right _ (List.mem_of_getElem? h)))))), g⟩
theorem xw_sel {q : MethodName × Nat} (i : Nat) (h : lw_privs[i]? = some q) : Cond.selects q.1.cls q.1 q.1 ∈ xw_tbl := List.mem_filter.mpr ⟨List.mem_append_left _ (List.mem_map.mpr ⟨q, List.mem_of_getElem? h, rfl⟩), rfl⟩
