def xl_At (A : Nat → Prop) (s : State) (b L : Nat) (xs : Nat → Int32) : Prop := va_X b L xs s s.heap ∧ b < s.heap.size ∧ ¬ A b ∧ ∀ q, A q → s.heap.size ≤ q
def xsI (L : Nat) (xs : Nat → Int32) (i : Int32) (P : Int32 → Prop) : Prop := ∃ x, vp_in i L ∧ xs i.toNatClampNeg = x ∧ P x
section XL
variable {p : Program} {l : Launch} {e : Env} {R : Room} {s : State} {m : MethodId} {args : Array Value} {below : List Frame} {meth : Method} {c : Code} {Q : State → Prop} {D : va_G} {E : Ev} {A : Nat → Prop} {KC KS nL : Nat} {own : String} {cc : ByteArray} {h : Hp} {kc ks : Nat} {lv : List (Nat × Value)} {pc : Nat} {st : List Value}
theorem xr_slen (C : XC p R s m args c D E A nL own cc KC KS) {b L : Nat} {xs : Nat → Int32} (hX : xl_At A s b L xs) (d : decode cc pc = .ok (.arraylength, 1)) (kk : XW p l e R s m args below meth c Q D A KC KS nL h kc ks lv (pc + 1) (.int (Int32.ofNat L) :: st)) : XW p l e R s m args below meth c Q D A KC KS nL h kc ks lv pc (.ref b :: st) := by
  intro H locs cells slots ls hP hD hS hc1 hs1 hl
  exact va_slen C.1.1 C.1.2 hX.1 hX.2.1 hX.2.2.1 hS d (kk H locs cells slots ls hP hD hS hc1 hs1 hl)
theorem xr_sld (C : XC p R s m args c D E A nL own cc KC KS) {b L : Nat} {xs : Nat → Int32} (hX : xl_At A s b L xs) {i x : Int32} (hin : vp_in i L) (hv : xs i.toNatClampNeg = x) (d : decode cc pc = .ok (.iaload, 1)) (kk : XW p l e R s m args below meth c Q D A KC KS nL h kc ks lv (pc + 1) (.int x :: st)) : XW p l e R s m args below meth c Q D A KC KS nL h kc ks lv pc (.int i :: .ref b :: st) := by
  subst hv
  intro H locs cells slots ls hP hD hS hc1 hs1 hl
  exact va_sld C.1.1 C.1.2 hX.1 hX.2.1 hX.2.2.1 hS hin d (kk H locs cells slots ls hP hD hS hc1 hs1 hl)
theorem xr_lawret {b L : Nat} {xs : Nat → Int32} (C : XC p room_1 s m #[Value.ref b] c D E A nL own code 600000 7302250) (hr : meth.sig.returnType = ret) (hlk : meth.locks = false) (hX : xl_At A s b L xs) {v : Int32} (hv : v = 1) (d : decode code pc = .ok (.ireturn, 1)) : XW p l e room_1 s m #[Value.ref b] below meth c (lw_Z below #[Value.ref b] s) D A 600000 7302250 nL h kc ks lv pc [.int v] := by
  subst hv
  intro H locs cells slots ls hP hD hS hc1 hs1 hl
  refine va_forget (fun q hq => hX.2.2.2 _ (hS.2.2 q hq)) ?_
  refine W.widen (k := 600000) (n := 7302250) (by omega) (by omega) ?_
  exact lw_ret C.1.1 C.1.2 hr hlk d
end XL
theorem wl_0 : Cond.methodLink "CardPaymentsLaw" 12 ⟨"CardPaymentsModel", "<init>", "()V"⟩ ∈ xw_tbl := xw_at4 217 (by rfl) rfl
theorem wl_1 : Cond.code ⟨"CardPaymentsModel", "<init>", "()V"⟩ prog_14_method_1_code 1 none ∈ xw_tbl := xw_at4 219 (by rfl) rfl
theorem wl_2 : Cond.instanceMethod ⟨"CardPaymentsModel", "<init>", "()V"⟩ ∈ xw_tbl := xw_at4 218 (by rfl) rfl
theorem wl_3 : Cond.initialized "CardPaymentsModel" ∈ xw_tbl := xw_at1 10 (by rfl) rfl
theorem wl_4 : Cond.classLink "CardPaymentsLaw" 10 "CardPaymentsModel" ∈ xw_tbl := xw_at4 215 (by rfl) rfl
theorem wl_5 : Cond.instantiable "CardPaymentsModel" 63 ∈ xw_tbl := xw_at4 216 (by rfl) rfl
theorem wl_6 : Cond.methodLink "CardPaymentsLaw" 9 ⟨"CardPayments", "<init>", "()V"⟩ ∈ xw_tbl := xw_at1 25 (by rfl) rfl
theorem wl_7 : Cond.code ⟨"CardPayments", "<init>", "()V"⟩ prog_1_method_1_code 1 none ∈ xw_tbl := xw_at1 27 (by rfl) rfl
theorem wl_8 : Cond.instanceMethod ⟨"CardPayments", "<init>", "()V"⟩ ∈ xw_tbl := xw_at1 26 (by rfl) rfl
theorem wl_9 : Cond.initialized "CardPayments" ∈ xw_tbl := xw_at1 1 (by rfl) rfl
theorem wl_10 : Cond.classLink "CardPaymentsLaw" 7 "CardPayments" ∈ xw_tbl := xw_at1 23 (by rfl) rfl
theorem wl_11 : Cond.instantiable "CardPayments" 4 ∈ xw_tbl := xw_at1 24 (by rfl) rfl
theorem wl_12 : Cond.constantLong "CardPaymentsLaw" 13 4294967295 ∈ xw_tbl := xw_at6 159 (by rfl) rfl
theorem wl_13 : Cond.methodLink "CardPaymentsLaw" 19 ⟨"CardPaymentsModel", "card", "(IJIJ)I"⟩ ∈ xw_tbl := xw_at6 65 (by rfl) rfl
theorem wl_14 : Cond.code ⟨"CardPaymentsModel", "card", "(IJIJ)I"⟩ prog_14_method_35_code 7 (some .int) ∈ xw_tbl := xw_at6 68 (by rfl) rfl
theorem wl_15 : Cond.instanceMethod ⟨"CardPaymentsModel", "card", "(IJIJ)I"⟩ ∈ xw_tbl := xw_at6 66 (by rfl) rfl
theorem wl_16 : Cond.selects "CardPaymentsModel" ⟨"CardPaymentsModel", "card", "(IJIJ)I"⟩ ⟨"CardPaymentsModel", "card", "(IJIJ)I"⟩ ∈ xw_tbl := xw_at6 67 (by rfl) rfl
theorem wl_17 : Cond.methodLink "CardPaymentsLaw" 15 ⟨"CardPayments", "card", "(IJIJ)I"⟩ ∈ xw_tbl := xw_at1 207 (by rfl) rfl
theorem wl_18 : Cond.code ⟨"CardPayments", "card", "(IJIJ)I"⟩ prog_1_method_2_code 8 (some .int) ∈ xw_tbl := xw_at1 210 (by rfl) rfl
theorem wl_19 : Cond.instanceMethod ⟨"CardPayments", "card", "(IJIJ)I"⟩ ∈ xw_tbl := xw_at1 208 (by rfl) rfl
theorem wl_20 : Cond.selects "CardPayments" ⟨"CardPayments", "card", "(IJIJ)I"⟩ ⟨"CardPayments", "card", "(IJIJ)I"⟩ ∈ xw_tbl := xw_at1 209 (by rfl) rfl
theorem wl_21 : Cond.methodLink "CardPaymentsLaw" 24 ⟨"CardPaymentsModel", "terminal", "(JJ)I"⟩ ∈ xw_tbl := xw_at6 76 (by rfl) rfl
theorem wl_22 : Cond.code ⟨"CardPaymentsModel", "terminal", "(JJ)I"⟩ prog_14_method_36_code 5 (some .int) ∈ xw_tbl := xw_at6 79 (by rfl) rfl
theorem wl_23 : Cond.instanceMethod ⟨"CardPaymentsModel", "terminal", "(JJ)I"⟩ ∈ xw_tbl := xw_at6 77 (by rfl) rfl
theorem wl_24 : Cond.selects "CardPaymentsModel" ⟨"CardPaymentsModel", "terminal", "(JJ)I"⟩ ⟨"CardPaymentsModel", "terminal", "(JJ)I"⟩ ∈ xw_tbl := xw_at6 78 (by rfl) rfl
theorem wl_25 : Cond.methodLink "CardPaymentsLaw" 20 ⟨"CardPayments", "terminal", "(JJ)I"⟩ ∈ xw_tbl := xw_at2 174 (by rfl) rfl
theorem wl_26 : Cond.code ⟨"CardPayments", "terminal", "(JJ)I"⟩ prog_1_method_3_code 6 (some .int) ∈ xw_tbl := xw_at2 177 (by rfl) rfl
theorem wl_27 : Cond.instanceMethod ⟨"CardPayments", "terminal", "(JJ)I"⟩ ∈ xw_tbl := xw_at2 175 (by rfl) rfl
theorem wl_28 : Cond.selects "CardPayments" ⟨"CardPayments", "terminal", "(JJ)I"⟩ ⟨"CardPayments", "terminal", "(JJ)I"⟩ ∈ xw_tbl := xw_at2 176 (by rfl) rfl
theorem wl_29 : Cond.methodLink "CardPaymentsLaw" 29 ⟨"CardPaymentsModel", "purchase", "(IIJI)I"⟩ ∈ xw_tbl := xw_at6 81 (by rfl) rfl
theorem wl_30 : Cond.code ⟨"CardPaymentsModel", "purchase", "(IIJI)I"⟩ prog_14_method_37_code 6 (some .int) ∈ xw_tbl := xw_at6 84 (by rfl) rfl
theorem wl_31 : Cond.instanceMethod ⟨"CardPaymentsModel", "purchase", "(IIJI)I"⟩ ∈ xw_tbl := xw_at6 82 (by rfl) rfl
theorem wl_32 : Cond.selects "CardPaymentsModel" ⟨"CardPaymentsModel", "purchase", "(IIJI)I"⟩ ⟨"CardPaymentsModel", "purchase", "(IIJI)I"⟩ ∈ xw_tbl := xw_at6 83 (by rfl) rfl
theorem wl_33 : Cond.methodLink "CardPaymentsLaw" 25 ⟨"CardPayments", "purchase", "(IIJI)I"⟩ ∈ xw_tbl := xw_at2 232 (by rfl) rfl
theorem wl_34 : Cond.code ⟨"CardPayments", "purchase", "(IIJI)I"⟩ prog_1_method_4_code 6 (some .int) ∈ xw_tbl := xw_at2 235 (by rfl) rfl
theorem wl_35 : Cond.instanceMethod ⟨"CardPayments", "purchase", "(IIJI)I"⟩ ∈ xw_tbl := xw_at2 233 (by rfl) rfl
theorem wl_36 : Cond.selects "CardPayments" ⟨"CardPayments", "purchase", "(IIJI)I"⟩ ⟨"CardPayments", "purchase", "(IIJI)I"⟩ ∈ xw_tbl := xw_at2 234 (by rfl) rfl
theorem wl_37 : Cond.methodLink "CardPaymentsLaw" 34 ⟨"CardPaymentsModel", "deliver", "(I)I"⟩ ∈ xw_tbl := xw_at5 173 (by rfl) rfl
theorem wl_38 : Cond.code ⟨"CardPaymentsModel", "deliver", "(I)I"⟩ prog_14_method_15_code 6 (some .int) ∈ xw_tbl := xw_at5 176 (by rfl) rfl
theorem wl_39 : Cond.instanceMethod ⟨"CardPaymentsModel", "deliver", "(I)I"⟩ ∈ xw_tbl := xw_at5 174 (by rfl) rfl
theorem wl_40 : Cond.selects "CardPaymentsModel" ⟨"CardPaymentsModel", "deliver", "(I)I"⟩ ⟨"CardPaymentsModel", "deliver", "(I)I"⟩ ∈ xw_tbl := xw_at5 175 (by rfl) rfl
theorem wl_41 : Cond.methodLink "CardPaymentsLaw" 30 ⟨"CardPayments", "deliver", "(I)I"⟩ ∈ xw_tbl := xw_at3 90 (by rfl) rfl
theorem wl_42 : Cond.code ⟨"CardPayments", "deliver", "(I)I"⟩ prog_1_method_5_code 5 (some .int) ∈ xw_tbl := xw_at3 93 (by rfl) rfl
theorem wl_43 : Cond.instanceMethod ⟨"CardPayments", "deliver", "(I)I"⟩ ∈ xw_tbl := xw_at3 91 (by rfl) rfl
theorem wl_44 : Cond.selects "CardPayments" ⟨"CardPayments", "deliver", "(I)I"⟩ ⟨"CardPayments", "deliver", "(I)I"⟩ ∈ xw_tbl := xw_at3 92 (by rfl) rfl
theorem wl_45 : Cond.methodLink "CardPaymentsLaw" 39 ⟨"CardPaymentsModel", "alter", "(III)Z"⟩ ∈ xw_tbl := xw_at6 87 (by rfl) rfl
theorem wl_46 : Cond.code ⟨"CardPaymentsModel", "alter", "(III)Z"⟩ prog_14_method_38_code 4 (some .boolean) ∈ xw_tbl := xw_at6 90 (by rfl) rfl
theorem wl_47 : Cond.instanceMethod ⟨"CardPaymentsModel", "alter", "(III)Z"⟩ ∈ xw_tbl := xw_at6 88 (by rfl) rfl
theorem wl_48 : Cond.selects "CardPaymentsModel" ⟨"CardPaymentsModel", "alter", "(III)Z"⟩ ⟨"CardPaymentsModel", "alter", "(III)Z"⟩ ∈ xw_tbl := xw_at6 89 (by rfl) rfl
theorem wl_49 : Cond.methodLink "CardPaymentsLaw" 35 ⟨"CardPayments", "alter", "(III)Z"⟩ ∈ xw_tbl := xw_at4 104 (by rfl) rfl
theorem wl_50 : Cond.code ⟨"CardPayments", "alter", "(III)Z"⟩ prog_1_method_6_code 5 (some .boolean) ∈ xw_tbl := xw_at4 107 (by rfl) rfl
theorem wl_51 : Cond.instanceMethod ⟨"CardPayments", "alter", "(III)Z"⟩ ∈ xw_tbl := xw_at4 105 (by rfl) rfl
theorem wl_52 : Cond.selects "CardPayments" ⟨"CardPayments", "alter", "(III)Z"⟩ ⟨"CardPayments", "alter", "(III)Z"⟩ ∈ xw_tbl := xw_at4 106 (by rfl) rfl
theorem wl_53 : Cond.methodLink "CardPaymentsLaw" 44 ⟨"CardPaymentsModel", "drop", "(I)Z"⟩ ∈ xw_tbl := xw_at6 92 (by rfl) rfl
theorem wl_54 : Cond.code ⟨"CardPaymentsModel", "drop", "(I)Z"⟩ prog_14_method_39_code 2 (some .boolean) ∈ xw_tbl := xw_at6 95 (by rfl) rfl
theorem wl_55 : Cond.instanceMethod ⟨"CardPaymentsModel", "drop", "(I)Z"⟩ ∈ xw_tbl := xw_at6 93 (by rfl) rfl
theorem wl_56 : Cond.selects "CardPaymentsModel" ⟨"CardPaymentsModel", "drop", "(I)Z"⟩ ⟨"CardPaymentsModel", "drop", "(I)Z"⟩ ∈ xw_tbl := xw_at6 94 (by rfl) rfl
theorem wl_57 : Cond.methodLink "CardPaymentsLaw" 40 ⟨"CardPayments", "drop", "(I)Z"⟩ ∈ xw_tbl := xw_at4 114 (by rfl) rfl
theorem wl_58 : Cond.code ⟨"CardPayments", "drop", "(I)Z"⟩ prog_1_method_7_code 2 (some .boolean) ∈ xw_tbl := xw_at4 117 (by rfl) rfl
theorem wl_59 : Cond.instanceMethod ⟨"CardPayments", "drop", "(I)Z"⟩ ∈ xw_tbl := xw_at4 115 (by rfl) rfl
theorem wl_60 : Cond.selects "CardPayments" ⟨"CardPayments", "drop", "(I)Z"⟩ ⟨"CardPayments", "drop", "(I)Z"⟩ ∈ xw_tbl := xw_at4 116 (by rfl) rfl
theorem wl_61 : Cond.methodLink "CardPaymentsLaw" 48 ⟨"CardPaymentsModel", "again", "(I)Z"⟩ ∈ xw_tbl := xw_at6 96 (by rfl) rfl
theorem wl_62 : Cond.code ⟨"CardPaymentsModel", "again", "(I)Z"⟩ prog_14_method_40_code 3 (some .boolean) ∈ xw_tbl := xw_at6 99 (by rfl) rfl
theorem wl_63 : Cond.instanceMethod ⟨"CardPaymentsModel", "again", "(I)Z"⟩ ∈ xw_tbl := xw_at6 97 (by rfl) rfl
theorem wl_64 : Cond.selects "CardPaymentsModel" ⟨"CardPaymentsModel", "again", "(I)Z"⟩ ⟨"CardPaymentsModel", "again", "(I)Z"⟩ ∈ xw_tbl := xw_at6 98 (by rfl) rfl
theorem wl_65 : Cond.methodLink "CardPaymentsLaw" 45 ⟨"CardPayments", "again", "(I)Z"⟩ ∈ xw_tbl := xw_at4 118 (by rfl) rfl
theorem wl_66 : Cond.code ⟨"CardPayments", "again", "(I)Z"⟩ prog_1_method_8_code 4 (some .boolean) ∈ xw_tbl := xw_at4 121 (by rfl) rfl
theorem wl_67 : Cond.instanceMethod ⟨"CardPayments", "again", "(I)Z"⟩ ∈ xw_tbl := xw_at4 119 (by rfl) rfl
theorem wl_68 : Cond.selects "CardPayments" ⟨"CardPayments", "again", "(I)Z"⟩ ⟨"CardPayments", "again", "(I)Z"⟩ ∈ xw_tbl := xw_at4 120 (by rfl) rfl
theorem wl_69 : Cond.methodLink "CardPaymentsLaw" 52 ⟨"CardPaymentsModel", "put", "(I)I"⟩ ∈ xw_tbl := xw_at6 100 (by rfl) rfl
theorem wl_70 : Cond.code ⟨"CardPaymentsModel", "put", "(I)I"⟩ prog_14_method_41_code 2 (some .int) ∈ xw_tbl := xw_at6 103 (by rfl) rfl
theorem wl_71 : Cond.instanceMethod ⟨"CardPaymentsModel", "put", "(I)I"⟩ ∈ xw_tbl := xw_at6 101 (by rfl) rfl
theorem wl_72 : Cond.selects "CardPaymentsModel" ⟨"CardPaymentsModel", "put", "(I)I"⟩ ⟨"CardPaymentsModel", "put", "(I)I"⟩ ∈ xw_tbl := xw_at6 102 (by rfl) rfl
theorem wl_73 : Cond.methodLink "CardPaymentsLaw" 49 ⟨"CardPayments", "put", "(I)I"⟩ ∈ xw_tbl := xw_at4 129 (by rfl) rfl
theorem wl_74 : Cond.code ⟨"CardPayments", "put", "(I)I"⟩ prog_1_method_9_code 2 (some .int) ∈ xw_tbl := xw_at4 132 (by rfl) rfl
theorem wl_75 : Cond.instanceMethod ⟨"CardPayments", "put", "(I)I"⟩ ∈ xw_tbl := xw_at4 130 (by rfl) rfl
theorem wl_76 : Cond.selects "CardPayments" ⟨"CardPayments", "put", "(I)I"⟩ ⟨"CardPayments", "put", "(I)I"⟩ ∈ xw_tbl := xw_at4 131 (by rfl) rfl
theorem wl_77 : Cond.methodLink "CardPaymentsLaw" 57 ⟨"CardPaymentsModel", "inject", "(IIII)Z"⟩ ∈ xw_tbl := xw_at6 104 (by rfl) rfl
theorem wl_78 : Cond.code ⟨"CardPaymentsModel", "inject", "(IIII)Z"⟩ prog_14_method_43_code 6 (some .boolean) ∈ xw_tbl := xw_at6 107 (by rfl) rfl
theorem wl_79 : Cond.instanceMethod ⟨"CardPaymentsModel", "inject", "(IIII)Z"⟩ ∈ xw_tbl := xw_at6 105 (by rfl) rfl
theorem wl_80 : Cond.selects "CardPaymentsModel" ⟨"CardPaymentsModel", "inject", "(IIII)Z"⟩ ⟨"CardPaymentsModel", "inject", "(IIII)Z"⟩ ∈ xw_tbl := xw_at6 106 (by rfl) rfl
theorem wl_81 : Cond.methodLink "CardPaymentsLaw" 53 ⟨"CardPayments", "inject", "(IIII)Z"⟩ ∈ xw_tbl := xw_at4 133 (by rfl) rfl
theorem wl_82 : Cond.code ⟨"CardPayments", "inject", "(IIII)Z"⟩ prog_1_method_10_code 6 (some .boolean) ∈ xw_tbl := xw_at4 136 (by rfl) rfl
theorem wl_83 : Cond.instanceMethod ⟨"CardPayments", "inject", "(IIII)Z"⟩ ∈ xw_tbl := xw_at4 134 (by rfl) rfl
theorem wl_84 : Cond.selects "CardPayments" ⟨"CardPayments", "inject", "(IIII)Z"⟩ ⟨"CardPayments", "inject", "(IIII)Z"⟩ ∈ xw_tbl := xw_at4 135 (by rfl) rfl
theorem wl_85 : Cond.methodLink "CardPaymentsLaw" 62 ⟨"CardPaymentsModel", "power", "(II)Z"⟩ ∈ xw_tbl := xw_at6 112 (by rfl) rfl
theorem wl_86 : Cond.code ⟨"CardPaymentsModel", "power", "(II)Z"⟩ prog_14_method_44_code 3 (some .boolean) ∈ xw_tbl := xw_at6 115 (by rfl) rfl
theorem wl_87 : Cond.instanceMethod ⟨"CardPaymentsModel", "power", "(II)Z"⟩ ∈ xw_tbl := xw_at6 113 (by rfl) rfl
theorem wl_88 : Cond.selects "CardPaymentsModel" ⟨"CardPaymentsModel", "power", "(II)Z"⟩ ⟨"CardPaymentsModel", "power", "(II)Z"⟩ ∈ xw_tbl := xw_at6 114 (by rfl) rfl
theorem wl_89 : Cond.methodLink "CardPaymentsLaw" 58 ⟨"CardPayments", "power", "(II)Z"⟩ ∈ xw_tbl := xw_at4 143 (by rfl) rfl
theorem wl_90 : Cond.code ⟨"CardPayments", "power", "(II)Z"⟩ prog_1_method_11_code 3 (some .boolean) ∈ xw_tbl := xw_at4 146 (by rfl) rfl
theorem wl_91 : Cond.instanceMethod ⟨"CardPayments", "power", "(II)Z"⟩ ∈ xw_tbl := xw_at4 144 (by rfl) rfl
theorem wl_92 : Cond.selects "CardPayments" ⟨"CardPayments", "power", "(II)Z"⟩ ⟨"CardPayments", "power", "(II)Z"⟩ ∈ xw_tbl := xw_at4 145 (by rfl) rfl
theorem wl_93 : Cond.methodLink "CardPaymentsLaw" 66 ⟨"CardPaymentsModel", "tick", "(I)I"⟩ ∈ xw_tbl := xw_at6 116 (by rfl) rfl
theorem wl_94 : Cond.code ⟨"CardPaymentsModel", "tick", "(I)I"⟩ prog_14_method_45_code 4 (some .int) ∈ xw_tbl := xw_at6 119 (by rfl) rfl
theorem wl_95 : Cond.instanceMethod ⟨"CardPaymentsModel", "tick", "(I)I"⟩ ∈ xw_tbl := xw_at6 117 (by rfl) rfl
theorem wl_96 : Cond.selects "CardPaymentsModel" ⟨"CardPaymentsModel", "tick", "(I)I"⟩ ⟨"CardPaymentsModel", "tick", "(I)I"⟩ ∈ xw_tbl := xw_at6 118 (by rfl) rfl
theorem wl_97 : Cond.methodLink "CardPaymentsLaw" 63 ⟨"CardPayments", "tick", "(I)I"⟩ ∈ xw_tbl := xw_at4 147 (by rfl) rfl
theorem wl_98 : Cond.code ⟨"CardPayments", "tick", "(I)I"⟩ prog_1_method_12_code 4 (some .int) ∈ xw_tbl := xw_at4 150 (by rfl) rfl
theorem wl_99 : Cond.instanceMethod ⟨"CardPayments", "tick", "(I)I"⟩ ∈ xw_tbl := xw_at4 148 (by rfl) rfl
theorem wl_100 : Cond.selects "CardPayments" ⟨"CardPayments", "tick", "(I)I"⟩ ⟨"CardPayments", "tick", "(I)I"⟩ ∈ xw_tbl := xw_at4 149 (by rfl) rfl
theorem wl_101 : Cond.methodLink "CardPaymentsLaw" 70 ⟨"CardPaymentsModel", "clear", "(I)I"⟩ ∈ xw_tbl := xw_at6 122 (by rfl) rfl
theorem wl_102 : Cond.code ⟨"CardPaymentsModel", "clear", "(I)I"⟩ prog_14_method_46_code 5 (some .int) ∈ xw_tbl := xw_at6 125 (by rfl) rfl
theorem wl_103 : Cond.instanceMethod ⟨"CardPaymentsModel", "clear", "(I)I"⟩ ∈ xw_tbl := xw_at6 123 (by rfl) rfl
theorem wl_104 : Cond.selects "CardPaymentsModel" ⟨"CardPaymentsModel", "clear", "(I)I"⟩ ⟨"CardPaymentsModel", "clear", "(I)I"⟩ ∈ xw_tbl := xw_at6 124 (by rfl) rfl
theorem wl_105 : Cond.methodLink "CardPaymentsLaw" 67 ⟨"CardPayments", "clear", "(I)I"⟩ ∈ xw_tbl := xw_at4 156 (by rfl) rfl
theorem wl_106 : Cond.code ⟨"CardPayments", "clear", "(I)I"⟩ prog_1_method_13_code 2 (some .int) ∈ xw_tbl := xw_at4 159 (by rfl) rfl
theorem wl_107 : Cond.instanceMethod ⟨"CardPayments", "clear", "(I)I"⟩ ∈ xw_tbl := xw_at4 157 (by rfl) rfl
theorem wl_108 : Cond.selects "CardPayments" ⟨"CardPayments", "clear", "(I)I"⟩ ⟨"CardPayments", "clear", "(I)I"⟩ ∈ xw_tbl := xw_at4 158 (by rfl) rfl
theorem wl_109 : Cond.methodLink "CardPaymentsLaw" 74 ⟨"CardPaymentsModel", "count", "(I)I"⟩ ∈ xw_tbl := xw_at6 126 (by rfl) rfl
theorem wl_110 : Cond.code ⟨"CardPaymentsModel", "count", "(I)I"⟩ prog_14_method_47_code 2 (some .int) ∈ xw_tbl := xw_at6 129 (by rfl) rfl
theorem wl_111 : Cond.instanceMethod ⟨"CardPaymentsModel", "count", "(I)I"⟩ ∈ xw_tbl := xw_at6 127 (by rfl) rfl
theorem wl_112 : Cond.selects "CardPaymentsModel" ⟨"CardPaymentsModel", "count", "(I)I"⟩ ⟨"CardPaymentsModel", "count", "(I)I"⟩ ∈ xw_tbl := xw_at6 128 (by rfl) rfl
theorem wl_113 : Cond.methodLink "CardPaymentsLaw" 71 ⟨"CardPayments", "count", "(I)I"⟩ ∈ xw_tbl := xw_at4 170 (by rfl) rfl
theorem wl_114 : Cond.code ⟨"CardPayments", "count", "(I)I"⟩ prog_1_method_14_code 2 (some .int) ∈ xw_tbl := xw_at4 173 (by rfl) rfl
theorem wl_115 : Cond.instanceMethod ⟨"CardPayments", "count", "(I)I"⟩ ∈ xw_tbl := xw_at4 171 (by rfl) rfl
theorem wl_116 : Cond.selects "CardPayments" ⟨"CardPayments", "count", "(I)I"⟩ ⟨"CardPayments", "count", "(I)I"⟩ ∈ xw_tbl := xw_at4 172 (by rfl) rfl
theorem wl_117 : Cond.methodLink "CardPaymentsLaw" 78 ⟨"CardPaymentsModel", "outcome", "(I)I"⟩ ∈ xw_tbl := xw_at6 130 (by rfl) rfl
theorem wl_118 : Cond.code ⟨"CardPaymentsModel", "outcome", "(I)I"⟩ prog_14_method_48_code 2 (some .int) ∈ xw_tbl := xw_at6 133 (by rfl) rfl
theorem wl_119 : Cond.instanceMethod ⟨"CardPaymentsModel", "outcome", "(I)I"⟩ ∈ xw_tbl := xw_at6 131 (by rfl) rfl
theorem wl_120 : Cond.selects "CardPaymentsModel" ⟨"CardPaymentsModel", "outcome", "(I)I"⟩ ⟨"CardPaymentsModel", "outcome", "(I)I"⟩ ∈ xw_tbl := xw_at6 132 (by rfl) rfl
theorem wl_121 : Cond.methodLink "CardPaymentsLaw" 75 ⟨"CardPayments", "outcome", "(I)I"⟩ ∈ xw_tbl := xw_at4 174 (by rfl) rfl
theorem wl_122 : Cond.code ⟨"CardPayments", "outcome", "(I)I"⟩ prog_1_method_15_code 2 (some .int) ∈ xw_tbl := xw_at4 177 (by rfl) rfl
theorem wl_123 : Cond.instanceMethod ⟨"CardPayments", "outcome", "(I)I"⟩ ∈ xw_tbl := xw_at4 175 (by rfl) rfl
theorem wl_124 : Cond.selects "CardPayments" ⟨"CardPayments", "outcome", "(I)I"⟩ ⟨"CardPayments", "outcome", "(I)I"⟩ ∈ xw_tbl := xw_at4 176 (by rfl) rfl
theorem wl_125 : Cond.methodLink "CardPaymentsLaw" 83 ⟨"CardPaymentsModel", "told", "(II)I"⟩ ∈ xw_tbl := xw_at6 134 (by rfl) rfl
theorem wl_126 : Cond.code ⟨"CardPaymentsModel", "told", "(II)I"⟩ prog_14_method_49_code 3 (some .int) ∈ xw_tbl := xw_at6 137 (by rfl) rfl
theorem wl_127 : Cond.instanceMethod ⟨"CardPaymentsModel", "told", "(II)I"⟩ ∈ xw_tbl := xw_at6 135 (by rfl) rfl
theorem wl_128 : Cond.selects "CardPaymentsModel" ⟨"CardPaymentsModel", "told", "(II)I"⟩ ⟨"CardPaymentsModel", "told", "(II)I"⟩ ∈ xw_tbl := xw_at6 136 (by rfl) rfl
theorem wl_129 : Cond.methodLink "CardPaymentsLaw" 79 ⟨"CardPayments", "told", "(II)I"⟩ ∈ xw_tbl := xw_at4 178 (by rfl) rfl
theorem wl_130 : Cond.code ⟨"CardPayments", "told", "(II)I"⟩ prog_1_method_16_code 4 (some .int) ∈ xw_tbl := xw_at4 181 (by rfl) rfl
theorem wl_131 : Cond.instanceMethod ⟨"CardPayments", "told", "(II)I"⟩ ∈ xw_tbl := xw_at4 179 (by rfl) rfl
theorem wl_132 : Cond.selects "CardPayments" ⟨"CardPayments", "told", "(II)I"⟩ ⟨"CardPayments", "told", "(II)I"⟩ ∈ xw_tbl := xw_at4 180 (by rfl) rfl
theorem wl_133 : Cond.methodLink "CardPaymentsLaw" 88 ⟨"CardPaymentsModel", "account", "(I)J"⟩ ∈ xw_tbl := xw_at6 138 (by rfl) rfl
theorem wl_134 : Cond.code ⟨"CardPaymentsModel", "account", "(I)J"⟩ prog_14_method_50_code 2 (some .long) ∈ xw_tbl := xw_at6 141 (by rfl) rfl
theorem wl_135 : Cond.instanceMethod ⟨"CardPaymentsModel", "account", "(I)J"⟩ ∈ xw_tbl := xw_at6 139 (by rfl) rfl
theorem wl_136 : Cond.selects "CardPaymentsModel" ⟨"CardPaymentsModel", "account", "(I)J"⟩ ⟨"CardPaymentsModel", "account", "(I)J"⟩ ∈ xw_tbl := xw_at6 140 (by rfl) rfl
theorem wl_137 : Cond.methodLink "CardPaymentsLaw" 84 ⟨"CardPayments", "account", "(I)J"⟩ ∈ xw_tbl := xw_at4 182 (by rfl) rfl
theorem wl_138 : Cond.code ⟨"CardPayments", "account", "(I)J"⟩ prog_1_method_17_code 2 (some .long) ∈ xw_tbl := xw_at4 185 (by rfl) rfl
theorem wl_139 : Cond.instanceMethod ⟨"CardPayments", "account", "(I)J"⟩ ∈ xw_tbl := xw_at4 183 (by rfl) rfl
theorem wl_140 : Cond.selects "CardPayments" ⟨"CardPayments", "account", "(I)J"⟩ ⟨"CardPayments", "account", "(I)J"⟩ ∈ xw_tbl := xw_at4 184 (by rfl) rfl
theorem wl_141 : Cond.methodLink "CardPaymentsLaw" 93 ⟨"CardPaymentsModel", "debit", "(II)J"⟩ ∈ xw_tbl := xw_at6 142 (by rfl) rfl
theorem wl_142 : Cond.code ⟨"CardPaymentsModel", "debit", "(II)J"⟩ prog_14_method_51_code 3 (some .long) ∈ xw_tbl := xw_at6 145 (by rfl) rfl
theorem wl_143 : Cond.instanceMethod ⟨"CardPaymentsModel", "debit", "(II)J"⟩ ∈ xw_tbl := xw_at6 143 (by rfl) rfl
theorem wl_144 : Cond.selects "CardPaymentsModel" ⟨"CardPaymentsModel", "debit", "(II)J"⟩ ⟨"CardPaymentsModel", "debit", "(II)J"⟩ ∈ xw_tbl := xw_at6 144 (by rfl) rfl
theorem wl_145 : Cond.methodLink "CardPaymentsLaw" 89 ⟨"CardPayments", "debit", "(II)J"⟩ ∈ xw_tbl := xw_at4 186 (by rfl) rfl
theorem wl_146 : Cond.code ⟨"CardPayments", "debit", "(II)J"⟩ prog_1_method_18_code 4 (some .long) ∈ xw_tbl := xw_at4 189 (by rfl) rfl
theorem wl_147 : Cond.instanceMethod ⟨"CardPayments", "debit", "(II)J"⟩ ∈ xw_tbl := xw_at4 187 (by rfl) rfl
theorem wl_148 : Cond.selects "CardPayments" ⟨"CardPayments", "debit", "(II)J"⟩ ⟨"CardPayments", "debit", "(II)J"⟩ ∈ xw_tbl := xw_at4 188 (by rfl) rfl
theorem wl_149 : Cond.methodLink "CardPaymentsLaw" 97 ⟨"CardPaymentsModel", "message", "(II)I"⟩ ∈ xw_tbl := xw_at6 147 (by rfl) rfl
theorem wl_150 : Cond.code ⟨"CardPaymentsModel", "message", "(II)I"⟩ prog_14_method_52_code 3 (some .int) ∈ xw_tbl := xw_at6 150 (by rfl) rfl
theorem wl_151 : Cond.instanceMethod ⟨"CardPaymentsModel", "message", "(II)I"⟩ ∈ xw_tbl := xw_at6 148 (by rfl) rfl
theorem wl_152 : Cond.selects "CardPaymentsModel" ⟨"CardPaymentsModel", "message", "(II)I"⟩ ⟨"CardPaymentsModel", "message", "(II)I"⟩ ∈ xw_tbl := xw_at6 149 (by rfl) rfl
theorem wl_153 : Cond.methodLink "CardPaymentsLaw" 94 ⟨"CardPayments", "message", "(II)I"⟩ ∈ xw_tbl := xw_at4 192 (by rfl) rfl
theorem wl_154 : Cond.code ⟨"CardPayments", "message", "(II)I"⟩ prog_1_method_19_code 4 (some .int) ∈ xw_tbl := xw_at4 195 (by rfl) rfl
theorem wl_155 : Cond.instanceMethod ⟨"CardPayments", "message", "(II)I"⟩ ∈ xw_tbl := xw_at4 193 (by rfl) rfl
theorem wl_156 : Cond.selects "CardPayments" ⟨"CardPayments", "message", "(II)I"⟩ ⟨"CardPayments", "message", "(II)I"⟩ ∈ xw_tbl := xw_at4 194 (by rfl) rfl
theorem wl_157 : Cond.methodLink "CardPaymentsLaw" 101 ⟨"CardPaymentsModel", "at", "(II)I"⟩ ∈ xw_tbl := xw_at6 151 (by rfl) rfl
theorem wl_158 : Cond.code ⟨"CardPaymentsModel", "at", "(II)I"⟩ prog_14_method_53_code 3 (some .int) ∈ xw_tbl := xw_at6 154 (by rfl) rfl
theorem wl_159 : Cond.instanceMethod ⟨"CardPaymentsModel", "at", "(II)I"⟩ ∈ xw_tbl := xw_at6 152 (by rfl) rfl
theorem wl_160 : Cond.selects "CardPaymentsModel" ⟨"CardPaymentsModel", "at", "(II)I"⟩ ⟨"CardPaymentsModel", "at", "(II)I"⟩ ∈ xw_tbl := xw_at6 153 (by rfl) rfl
theorem wl_161 : Cond.methodLink "CardPaymentsLaw" 98 ⟨"CardPayments", "at", "(II)I"⟩ ∈ xw_tbl := xw_at4 196 (by rfl) rfl
theorem wl_162 : Cond.code ⟨"CardPayments", "at", "(II)I"⟩ prog_1_method_20_code 4 (some .int) ∈ xw_tbl := xw_at4 199 (by rfl) rfl
theorem wl_163 : Cond.instanceMethod ⟨"CardPayments", "at", "(II)I"⟩ ∈ xw_tbl := xw_at4 197 (by rfl) rfl
theorem wl_164 : Cond.selects "CardPayments" ⟨"CardPayments", "at", "(II)I"⟩ ⟨"CardPayments", "at", "(II)I"⟩ ∈ xw_tbl := xw_at4 198 (by rfl) rfl
theorem wl_165 : Cond.methodLink "CardPaymentsLaw" 106 ⟨"CardPaymentsModel", "matched", "()Z"⟩ ∈ xw_tbl := xw_at6 155 (by rfl) rfl
theorem wl_166 : Cond.code ⟨"CardPaymentsModel", "matched", "()Z"⟩ prog_14_method_54_code 9 (some .boolean) ∈ xw_tbl := xw_at6 158 (by rfl) rfl
theorem wl_167 : Cond.instanceMethod ⟨"CardPaymentsModel", "matched", "()Z"⟩ ∈ xw_tbl := xw_at6 156 (by rfl) rfl
theorem wl_168 : Cond.selects "CardPaymentsModel" ⟨"CardPaymentsModel", "matched", "()Z"⟩ ⟨"CardPaymentsModel", "matched", "()Z"⟩ ∈ xw_tbl := xw_at6 157 (by rfl) rfl
theorem wl_169 : Cond.methodLink "CardPaymentsLaw" 102 ⟨"CardPayments", "matched", "()Z"⟩ ∈ xw_tbl := xw_at4 200 (by rfl) rfl
theorem wl_170 : Cond.code ⟨"CardPayments", "matched", "()Z"⟩ prog_1_method_21_code 3 (some .boolean) ∈ xw_tbl := xw_at4 203 (by rfl) rfl
theorem wl_171 : Cond.instanceMethod ⟨"CardPayments", "matched", "()Z"⟩ ∈ xw_tbl := xw_at4 201 (by rfl) rfl
theorem wl_172 : Cond.selects "CardPayments" ⟨"CardPayments", "matched", "()Z"⟩ ⟨"CardPayments", "matched", "()Z"⟩ ∈ xw_tbl := xw_at4 202 (by rfl) rfl
def m_L_law_L902 (E : Ev) (SL : Nat) (SX : Nat → Int32) (a1 : Nat) (a2 : Nat) (xv3 : Int32) (h : Hp) (kc ks : Nat) (K18 : Nat → Nat → Int32 → Hp → Nat → Nat → Prop) : Prop := K18 a1 a2 (xv3 + 7) h kc ks
def m_L_law_L18 (n : Nat) (E : Ev) (SL : Nat) (SX : Nat → Int32) (a1 : Nat) (a2 : Nat) (xv3 : Int32) (h : Hp) (kc ks : Nat) : Prop := match n with
  | 0 => False
  | n + 1 => br (((Int32.ofNat SL) - 7) < xv3) ((1 : Int32) = 1) (xsI SL SX xv3 fun x33 =>
  br ((x33 &&& 31) = 0) (xsI SL SX (xv3 + 1) fun x35 =>
  xsI SL SX (xv3 + 2) fun x37 =>
  xsI SL SX (xv3 + 3) fun x39 =>
  ∀ y40 : Int64, y40 = (x37.toInt64 <<< ((32 : Int32).toInt64 &&& 63)) ||| (x39.toInt64 &&& 4294967295) → xsI SL SX (xv3 + 4) fun x43 =>
  xsI SL SX (xv3 + 5) fun x45 =>
  xsI SL SX (xv3 + 6) fun x47 =>
  ∀ y48 : Int64, y48 = (x45.toInt64 <<< ((32 : Int32).toInt64 &&& 63)) ||| (x47.toInt64 &&& 4294967295) → isO h a1 12 (cK kc ks fun mc52 ms53 kc54 ks55 => m_X11_card E a1 x35 y40 x43 y48 h mc52 ms53 (fun x56 h57 =>
 xsI SL SX (xv3 + 1) fun x59 =>
 xsI SL SX (xv3 + 2) fun x61 =>
 xsI SL SX (xv3 + 3) fun x63 =>
 ∀ y64 : Int64, y64 = (x61.toInt64 <<< ((32 : Int32).toInt64 &&& 63)) ||| (x63.toInt64 &&& 4294967295) → xsI SL SX (xv3 + 4) fun x67 =>
 xsI SL SX (xv3 + 5) fun x69 =>
 xsI SL SX (xv3 + 6) fun x71 =>
 ∀ y72 : Int64, y72 = (x69.toInt64 <<< ((32 : Int32).toInt64 &&& 63)) ||| (x71.toInt64 &&& 4294967295) → isO h57 a2 13 (m_X12_card E a2 x59 y64 x67 y72 h57 0 0 (fun x76 h77 =>
 br (x56 = x76) (m_L_law_L902 E SL SX a1 a2 xv3 h77 kc54 ks55 (fun a1k a2k xv3k hk kck ksk => m_L_law_L18 n E SL SX a1k a2k xv3k hk kck ksk)) ((0 : Int32) = 1)))))) (br ((x33 &&& 31) = 1) (xsI SL SX (xv3 + 1) fun x80 =>
  xsI SL SX (xv3 + 2) fun x82 =>
  ∀ y83 : Int64, y83 = (x80.toInt64 <<< ((32 : Int32).toInt64 &&& 63)) ||| (x82.toInt64 &&& 4294967295) → xsI SL SX (xv3 + 3) fun x86 =>
  xsI SL SX (xv3 + 4) fun x88 =>
  ∀ y89 : Int64, y89 = (x86.toInt64 <<< ((32 : Int32).toInt64 &&& 63)) ||| (x88.toInt64 &&& 4294967295) → isO h a1 12 (cK kc ks fun mc93 ms94 kc95 ks96 => m_X11_terminal E a1 y83 y89 h mc93 ms94 (fun x97 h98 =>
 xsI SL SX (xv3 + 1) fun x100 =>
 xsI SL SX (xv3 + 2) fun x102 =>
 ∀ y103 : Int64, y103 = (x100.toInt64 <<< ((32 : Int32).toInt64 &&& 63)) ||| (x102.toInt64 &&& 4294967295) → xsI SL SX (xv3 + 3) fun x106 =>
 xsI SL SX (xv3 + 4) fun x108 =>
 ∀ y109 : Int64, y109 = (x106.toInt64 <<< ((32 : Int32).toInt64 &&& 63)) ||| (x108.toInt64 &&& 4294967295) → isO h98 a2 13 (m_X12_terminal E a2 y103 y109 h98 0 0 (fun x113 h114 =>
 br (x97 = x113) (m_L_law_L902 E SL SX a1 a2 xv3 h114 kc95 ks96 (fun a1k a2k xv3k hk kck ksk => m_L_law_L18 n E SL SX a1k a2k xv3k hk kck ksk)) ((0 : Int32) = 1)))))) (br ((x33 &&& 31) = 2) (xsI SL SX (xv3 + 1) fun x117 =>
  xsI SL SX (xv3 + 2) fun x119 =>
  xsI SL SX (xv3 + 3) fun x121 =>
  xsI SL SX (xv3 + 4) fun x123 =>
  ∀ y124 : Int64, y124 = (x121.toInt64 <<< ((32 : Int32).toInt64 &&& 63)) ||| (x123.toInt64 &&& 4294967295) → xsI SL SX (xv3 + 5) fun x127 =>
  isO h a1 12 (cK kc ks fun mc130 ms131 kc132 ks133 => m_X11_purchase E a1 x117 x119 y124 x127 h mc130 ms131 (fun x134 h135 =>
 xsI SL SX (xv3 + 1) fun x137 =>
 xsI SL SX (xv3 + 2) fun x139 =>
 xsI SL SX (xv3 + 3) fun x141 =>
 xsI SL SX (xv3 + 4) fun x143 =>
 ∀ y144 : Int64, y144 = (x141.toInt64 <<< ((32 : Int32).toInt64 &&& 63)) ||| (x143.toInt64 &&& 4294967295) → xsI SL SX (xv3 + 5) fun x147 =>
 isO h135 a2 13 (m_X12_purchase E a2 x137 x139 y144 x147 h135 0 0 (fun x150 h151 =>
 br (x134 = x150) (m_L_law_L902 E SL SX a1 a2 xv3 h151 kc132 ks133 (fun a1k a2k xv3k hk kck ksk => m_L_law_L18 n E SL SX a1k a2k xv3k hk kck ksk)) ((0 : Int32) = 1)))))) (br ((x33 &&& 31) = 3) (xsI SL SX (xv3 + 1) fun x154 =>
  isO h a1 12 (cK kc ks fun mc157 ms158 kc159 ks160 => m_X11_deliver E a1 x154 h mc157 ms158 (fun x161 h162 =>
 xsI SL SX (xv3 + 1) fun x164 =>
 isO h162 a2 13 (m_X12_deliver E a2 x164 h162 0 0 (fun x167 h168 =>
 br (x161 = x167) (m_L_law_L902 E SL SX a1 a2 xv3 h168 kc159 ks160 (fun a1k a2k xv3k hk kck ksk => m_L_law_L18 n E SL SX a1k a2k xv3k hk kck ksk)) ((0 : Int32) = 1)))))) (br ((x33 &&& 31) = 4) (xsI SL SX (xv3 + 1) fun x171 =>
  xsI SL SX (xv3 + 2) fun x173 =>
  xsI SL SX (xv3 + 3) fun x175 =>
  isO h a1 12 (m_X11_alter E a1 x171 x173 x175 h 0 0 (fun x178 h179 =>
 xsI SL SX (xv3 + 1) fun x181 =>
 xsI SL SX (xv3 + 2) fun x183 =>
 xsI SL SX (xv3 + 3) fun x185 =>
 isO h179 a2 13 (m_X12_alter E a2 x181 x183 x185 h179 0 0 (fun x188 h189 =>
 br (x178 = x188) (m_L_law_L902 E SL SX a1 a2 xv3 h189 kc ks (fun a1k a2k xv3k hk kck ksk => m_L_law_L18 n E SL SX a1k a2k xv3k hk kck ksk)) ((0 : Int32) = 1)))))) (br ((x33 &&& 31) = 5) (xsI SL SX (xv3 + 1) fun x192 =>
  isO h a1 12 (m_X11_drop E a1 x192 h 0 0 (fun x195 h196 =>
 xsI SL SX (xv3 + 1) fun x198 =>
 isO h196 a2 13 (m_X12_drop E a2 x198 h196 0 0 (fun x201 h202 =>
 br (x195 = x201) (m_L_law_L902 E SL SX a1 a2 xv3 h202 kc ks (fun a1k a2k xv3k hk kck ksk => m_L_law_L18 n E SL SX a1k a2k xv3k hk kck ksk)) ((0 : Int32) = 1)))))) (br ((x33 &&& 31) = 6) (xsI SL SX (xv3 + 1) fun x205 =>
  isO h a1 12 (cK kc ks fun mc208 ms209 kc210 ks211 => m_X11_again E a1 x205 h mc208 ms209 (fun x212 h213 =>
 xsI SL SX (xv3 + 1) fun x215 =>
 isO h213 a2 13 (m_X12_again E a2 x215 h213 0 0 (fun x218 h219 =>
 br (x212 = x218) (m_L_law_L902 E SL SX a1 a2 xv3 h219 kc210 ks211 (fun a1k a2k xv3k hk kck ksk => m_L_law_L18 n E SL SX a1k a2k xv3k hk kck ksk)) ((0 : Int32) = 1)))))) (br ((x33 &&& 31) = 7) (xsI SL SX (xv3 + 1) fun x222 =>
  isO h a1 12 (m_X11_put E a1 x222 h 0 0 (fun x225 h226 =>
 xsI SL SX (xv3 + 1) fun x228 =>
 isO h226 a2 13 (m_X12_put E a2 x228 h226 0 0 (fun x231 h232 =>
 br (x225 = x231) (m_L_law_L902 E SL SX a1 a2 xv3 h232 kc ks (fun a1k a2k xv3k hk kck ksk => m_L_law_L18 n E SL SX a1k a2k xv3k hk kck ksk)) ((0 : Int32) = 1)))))) (br ((x33 &&& 31) = 8) (xsI SL SX (xv3 + 1) fun x235 =>
  xsI SL SX (xv3 + 2) fun x237 =>
  xsI SL SX (xv3 + 3) fun x239 =>
  xsI SL SX (xv3 + 4) fun x241 =>
  isO h a1 12 (cK kc ks fun mc244 ms245 kc246 ks247 => m_X11_inject E a1 x235 x237 x239 x241 h mc244 ms245 (fun x248 h249 =>
 xsI SL SX (xv3 + 1) fun x251 =>
 xsI SL SX (xv3 + 2) fun x253 =>
 xsI SL SX (xv3 + 3) fun x255 =>
 xsI SL SX (xv3 + 4) fun x257 =>
 isO h249 a2 13 (m_X12_inject E a2 x251 x253 x255 x257 h249 0 0 (fun x260 h261 =>
 br (x248 = x260) (m_L_law_L902 E SL SX a1 a2 xv3 h261 kc246 ks247 (fun a1k a2k xv3k hk kck ksk => m_L_law_L18 n E SL SX a1k a2k xv3k hk kck ksk)) ((0 : Int32) = 1)))))) (br ((x33 &&& 31) = 9) (xsI SL SX (xv3 + 1) fun x264 =>
  xsI SL SX (xv3 + 2) fun x266 =>
  isO h a1 12 (m_X11_power E a1 x264 x266 h 0 0 (fun x269 h270 =>
 xsI SL SX (xv3 + 1) fun x272 =>
 xsI SL SX (xv3 + 2) fun x274 =>
 isO h270 a2 13 (m_X12_power E a2 x272 x274 h270 0 0 (fun x277 h278 =>
 br (x269 = x277) (m_L_law_L902 E SL SX a1 a2 xv3 h278 kc ks (fun a1k a2k xv3k hk kck ksk => m_L_law_L18 n E SL SX a1k a2k xv3k hk kck ksk)) ((0 : Int32) = 1)))))) (br ((x33 &&& 31) = 10) (xsI SL SX (xv3 + 1) fun x281 =>
  isO h a1 12 (m_X11_tick E a1 x281 h 0 0 (fun x284 h285 =>
 xsI SL SX (xv3 + 1) fun x287 =>
 isO h285 a2 13 (m_X12_tick E a2 x287 h285 0 0 (fun x290 h291 =>
 br (x284 = x290) (m_L_law_L902 E SL SX a1 a2 xv3 h291 kc ks (fun a1k a2k xv3k hk kck ksk => m_L_law_L18 n E SL SX a1k a2k xv3k hk kck ksk)) ((0 : Int32) = 1)))))) (br ((x33 &&& 31) = 11) (xsI SL SX (xv3 + 1) fun x294 =>
  isO h a1 12 (cK kc ks fun mc297 ms298 kc299 ks300 => m_X11_clear E a1 x294 h mc297 ms298 (fun x301 h302 =>
 xsI SL SX (xv3 + 1) fun x304 =>
 isO h302 a2 13 (m_X12_clear E a2 x304 h302 0 0 (fun x307 h308 =>
 br (x301 = x307) (m_L_law_L902 E SL SX a1 a2 xv3 h308 kc299 ks300 (fun a1k a2k xv3k hk kck ksk => m_L_law_L18 n E SL SX a1k a2k xv3k hk kck ksk)) ((0 : Int32) = 1)))))) (br ((x33 &&& 31) = 12) (xsI SL SX (xv3 + 1) fun x311 =>
  isO h a1 12 (m_X11_count E a1 x311 h 0 0 (fun x314 h315 =>
 xsI SL SX (xv3 + 1) fun x317 =>
 isO h315 a2 13 (m_X12_count E a2 x317 h315 0 0 (fun x320 h321 =>
 br (x314 = x320) (m_L_law_L902 E SL SX a1 a2 xv3 h321 kc ks (fun a1k a2k xv3k hk kck ksk => m_L_law_L18 n E SL SX a1k a2k xv3k hk kck ksk)) ((0 : Int32) = 1)))))) (br ((x33 &&& 31) = 13) (xsI SL SX (xv3 + 1) fun x324 =>
  isO h a1 12 (m_X11_outcome E a1 x324 h 0 0 (fun x327 h328 =>
 xsI SL SX (xv3 + 1) fun x330 =>
 isO h328 a2 13 (m_X12_outcome E a2 x330 h328 0 0 (fun x333 h334 =>
 br (x327 = x333) (m_L_law_L902 E SL SX a1 a2 xv3 h334 kc ks (fun a1k a2k xv3k hk kck ksk => m_L_law_L18 n E SL SX a1k a2k xv3k hk kck ksk)) ((0 : Int32) = 1)))))) (br ((x33 &&& 31) = 14) (xsI SL SX (xv3 + 1) fun x337 =>
  xsI SL SX (xv3 + 2) fun x339 =>
  isO h a1 12 (m_X11_told E a1 x337 x339 h 0 0 (fun x342 h343 =>
 xsI SL SX (xv3 + 1) fun x345 =>
 xsI SL SX (xv3 + 2) fun x347 =>
 isO h343 a2 13 (m_X12_told E a2 x345 x347 h343 0 0 (fun x350 h351 =>
 br (x342 = x350) (m_L_law_L902 E SL SX a1 a2 xv3 h351 kc ks (fun a1k a2k xv3k hk kck ksk => m_L_law_L18 n E SL SX a1k a2k xv3k hk kck ksk)) ((0 : Int32) = 1)))))) (br ((x33 &&& 31) = 15) (xsI SL SX (xv3 + 1) fun x354 =>
  isO h a1 12 (m_X11_account E a1 x354 h 0 0 (fun y357 h358 =>
 xsI SL SX (xv3 + 1) fun x360 =>
 isO h358 a2 13 (m_X12_account E a2 x360 h358 0 0 (fun y363 h364 =>
 br ((lg_cmp y357 y363) = 0) (m_L_law_L902 E SL SX a1 a2 xv3 h364 kc ks (fun a1k a2k xv3k hk kck ksk => m_L_law_L18 n E SL SX a1k a2k xv3k hk kck ksk)) ((0 : Int32) = 1)))))) (br ((x33 &&& 31) = 16) (xsI SL SX (xv3 + 1) fun x367 =>
  xsI SL SX (xv3 + 2) fun x369 =>
  isO h a1 12 (m_X11_debit E a1 x367 x369 h 0 0 (fun y372 h373 =>
 xsI SL SX (xv3 + 1) fun x375 =>
 xsI SL SX (xv3 + 2) fun x377 =>
 isO h373 a2 13 (m_X12_debit_ E a2 x375 x377 h373 0 0 (fun y380 h381 =>
 br ((lg_cmp y372 y380) = 0) (m_L_law_L902 E SL SX a1 a2 xv3 h381 kc ks (fun a1k a2k xv3k hk kck ksk => m_L_law_L18 n E SL SX a1k a2k xv3k hk kck ksk)) ((0 : Int32) = 1)))))) (br ((x33 &&& 31) = 17) (xsI SL SX (xv3 + 1) fun x384 =>
  xsI SL SX (xv3 + 2) fun x386 =>
  isO h a1 12 (m_X11_message E a1 x384 x386 h 0 0 (fun x389 h390 =>
 xsI SL SX (xv3 + 1) fun x392 =>
 xsI SL SX (xv3 + 2) fun x394 =>
 isO h390 a2 13 (m_X12_message E a2 x392 x394 h390 0 0 (fun x397 h398 =>
 br (x389 = x397) (m_L_law_L902 E SL SX a1 a2 xv3 h398 kc ks (fun a1k a2k xv3k hk kck ksk => m_L_law_L18 n E SL SX a1k a2k xv3k hk kck ksk)) ((0 : Int32) = 1)))))) (br ((x33 &&& 31) = 18) (xsI SL SX (xv3 + 1) fun x401 =>
  xsI SL SX (xv3 + 2) fun x403 =>
  isO h a1 12 (m_X11_at E a1 x401 x403 h 0 0 (fun x406 h407 =>
 xsI SL SX (xv3 + 1) fun x409 =>
 xsI SL SX (xv3 + 2) fun x411 =>
 isO h407 a2 13 (m_X12_at E a2 x409 x411 h407 0 0 (fun x414 h415 =>
 br (x406 = x414) (m_L_law_L902 E SL SX a1 a2 xv3 h415 kc ks (fun a1k a2k xv3k hk kck ksk => m_L_law_L18 n E SL SX a1k a2k xv3k hk kck ksk)) ((0 : Int32) = 1)))))) (br ((x33 &&& 31) = 19) (isO h a1 12 (m_X11_matched E a1 h 0 0 (fun x419 h420 =>
 isO h420 a2 13 (m_X12_matched E a2 h420 0 0 (fun x423 h424 =>
 br (x419 = x423) (m_L_law_L902 E SL SX a1 a2 xv3 h424 kc ks (fun a1k a2k xv3k hk kck ksk => m_L_law_L18 n E SL SX a1k a2k xv3k hk kck ksk)) ((0 : Int32) = 1)))))) (m_L_law_L902 E SL SX a1 a2 xv3 h kc ks (fun a1k a2k xv3k hk kck ksk => m_L_law_L18 n E SL SX a1k a2k xv3k hk kck ksk))))))))))))))))))))))
def m_L_law (E : Ev) (SL : Nat) (SX : Nat → Int32) (h : Hp) (kc ks : Nat) : Prop := nO h kc ks 12 4 [.null, .null, .null, .int 0] fun a3 h4 kc5 ks6 =>
  cK kc5 ks6 fun mc9 ms10 kc11 ks12 => m_X11_init E a3 h4 mc9 ms10 (fun h14 =>
 nO h14 kc11 ks12 13 63 [.int 0, .null, .null, .null, .null, .int 0, .int 0, .null, .null, .null, .null, .null, .null, .int 0, .int 0, .null, .int 0, .null, .null, .null, .int 0, .int 0, .null, .null, .null, .null, .null, .null, .null, .null, .null, .null, .null, .null, .null, .null, .int 0, .null, .null, .null, .null, .null, .null, .null, .null, .null, .null, .null, .null, .null, .null, .null, .long 0, .int 0, .null, .null, .null, .int 0, .null, .int 0, .null, .int 0, .null] fun a17 h18 kc19 ks20 =>
 cK kc19 ks20 fun mc23 ms24 kc25 ks26 => m_X12_init E a17 h18 mc23 ms24 (fun h28 =>
 ∃ n29, m_L_law_L18 n29 E SL SX a3 a17 0 h28 kc25 ks26))
set_option maxRecDepth 100000 in
set_option maxHeartbeats 16000000 in
theorem k_L_law_L902 {p : Program} {l : Launch} {e : Env} {s : State} {m : MethodId} {below : List Frame} {meth : Method} {c : Code} {D : va_G} {E : Ev} {A : Nat → Prop} {b SL : Nat} {SX : Nat → Int32} (C : XC p room_1 s m #[Value.ref b] c D E A 4 RL cL_law 600000 7302250) (hr : meth.sig.returnType = ret) (hlk : meth.locks = false) (hnm : xl_At A s b SL SX) (hR : room_1.frames = 14 ∧ room_1.locals = 542) {K18 : Nat → Nat → Int32 → Hp → Nat → Nat → Prop} (hK18 : ∀ (a1 : Nat) (a2 : Nat) (xv3 : Int32) (h : Hp) (kc ks : Nat), K18 a1 a2 xv3 h kc ks → XW p l e room_1 s m #[Value.ref b] below meth c (lw_Z below #[Value.ref b] s) D A 600000 7302250 4 h kc ks [(0, .ref b), (1, .ref a1), (2, .ref a2), (3, .int xv3)] 18 []) : ∀ (a1 : Nat) (a2 : Nat) (xv3 : Int32) (h : Hp) (kc ks : Nat), m_L_law_L902 E SL SX a1 a2 xv3 h kc ks K18 → XW p l e room_1 s m #[Value.ref b] below meth c (lw_Z below #[Value.ref b] s) D A 600000 7302250 4 h kc ks [(0, .ref b), (1, .ref a1), (2, .ref a2), (3, .int xv3)] 902 [] := by
  intro a1 a2 xv3 h kc ks hm
  refine xr_iinc (j := 3) (v := xv3 + 7) (lv' := [(3, .int (xv3 + 7)), (0, .ref b), (1, .ref a1), (2, .ref a2)]) C dL_law_902 rfl rfl (by decide) rfl ?_
  refine xr_goto (tgt := 18) C dL_law_905 (by decide) ?_
  refine xr_sub [1, 2, 3, 0] rfl ?_
  exact hK18 a1 a2 (xv3 + 7) _ _ _ hm
set_option maxRecDepth 100000 in
set_option maxHeartbeats 16000000 in
theorem k_L_law_L18 {p : Program} {l : Launch} {e : Env} {s : State} {m : MethodId} {below : List Frame} {meth : Method} {c : Code} {D : va_G} {E : Ev} {A : Nat → Prop} {b SL : Nat} {SX : Nat → Int32} (C : XC p room_1 s m #[Value.ref b] c D E A 4 RL cL_law 600000 7302250) (hr : meth.sig.returnType = ret) (hlk : meth.locks = false) (hnm : xl_At A s b SL SX) (hR : room_1.frames = 14 ∧ room_1.locals = 542) : ∀ (n : Nat) (a1 : Nat) (a2 : Nat) (xv3 : Int32) (h : Hp) (kc ks : Nat), m_L_law_L18 n E SL SX a1 a2 xv3 h kc ks → XW p l e room_1 s m #[Value.ref b] below meth c (lw_Z below #[Value.ref b] s) D A 600000 7302250 4 h kc ks [(0, .ref b), (1, .ref a1), (2, .ref a2), (3, .int xv3)] 18 [] := by
  intro n
  induction n with
  | zero => intro a1 a2 xv3 h kc ks hm; exact False.elim hm
  | succ n ih =>
    intro a1 a2 xv3 h kc ks hm
    refine xr_iload_n C dL_law_18 3 rfl ?_
    refine xr_aload_n (r := (some b)) C dL_law_19 0 rfl ?_
    refine xr_slen C hnm dL_law_20 ?_
    refine xr_bipush (v := 7) C dL_law_21 rfl ?_
    refine xr_isub C dL_law_23 ?_
    refine xr_icmp_gt (tgt := 908) C dL_law_24 (by decide) (fun q31 => ?_) (fun q31 => ?_)
    · replace hm := hm.1 q31
      refine xr_iconst (v := 1) C dL_law_908 rfl ?_
      exact xr_lawret C hr hlk hnm hm dL_law_909
    · replace hm := hm.2 q31
      refine xr_aload_n (r := (some b)) C dL_law_27 0 rfl ?_
      refine xr_iload_n C dL_law_28 3 rfl ?_
      obtain ⟨x33, b32, v32, hm⟩ := hm
      refine xr_sld C hnm b32 v32 dL_law_29 ?_
      refine xr_bipush (v := 31) C dL_law_30 rfl ?_
      refine xr_iand C dL_law_32 ?_
      by_cases q_0 : (x33 &&& 31) = 0
      · replace hm := hm.1 q_0
        refine xr_tableIn (tgt := 128) C dL_law_33 (by rw [q_0]; decide) (by rw [q_0]; decide) (by rw [q_0] <;> rfl) (by decide) ?_
        refine xr_aload_n (r := (some a1)) C dL_law_128 1 rfl ?_
        refine xr_aload_n (r := (some b)) C dL_law_129 0 rfl ?_
        refine xr_iload_n C dL_law_130 3 rfl ?_
        refine xr_iconst (v := 1) C dL_law_131 rfl ?_
        refine xr_iadd C dL_law_132 ?_
        obtain ⟨x35, b34, v34, hm⟩ := hm
        refine xr_sld C hnm b34 v34 dL_law_133 ?_
        refine xr_aload_n (r := (some b)) C dL_law_134 0 rfl ?_
        refine xr_iload_n C dL_law_135 3 rfl ?_
        refine xr_iconst (v := 2) C dL_law_136 rfl ?_
        refine xr_iadd C dL_law_137 ?_
        obtain ⟨x37, b36, v36, hm⟩ := hm
        refine xr_sld C hnm b36 v36 dL_law_138 ?_
        refine xr_i2l (v := x37.toInt64) C dL_law_139 rfl ?_
        refine xr_bipush (v := 32) C dL_law_140 rfl ?_
        refine xr_lshl (v := x37.toInt64 <<< ((32 : Int32).toInt64 &&& 63)) C dL_law_142 rfl ?_
        refine xr_aload_n (r := (some b)) C dL_law_143 0 rfl ?_
        refine xr_iload_n C dL_law_144 3 rfl ?_
        refine xr_iconst (v := 3) C dL_law_145 rfl ?_
        refine xr_iadd C dL_law_146 ?_
        obtain ⟨x39, b38, v38, hm⟩ := hm
        refine xr_sld C hnm b38 v38 dL_law_147 ?_
        refine xr_i2l (v := x39.toInt64) C dL_law_148 rfl ?_
        refine xr_ldc2 (v := 4294967295) C dL_law_149 wl_12 ?_
        refine xr_land C dL_law_152 ?_
        refine xr_lor C dL_law_153 ?_
        refine xr_topl (fun y40 e41 => ?_)
        replace hm := hm y40 e41
        refine xr_aload_n (r := (some b)) C dL_law_154 0 rfl ?_
        refine xr_iload_n C dL_law_155 3 rfl ?_
        refine xr_iconst (v := 4) C dL_law_156 rfl ?_
        refine xr_iadd C dL_law_157 ?_
        obtain ⟨x43, b42, v42, hm⟩ := hm
        refine xr_sld C hnm b42 v42 dL_law_158 ?_
        refine xr_aload_n (r := (some b)) C dL_law_159 0 rfl ?_
        refine xr_iload_n C dL_law_160 3 rfl ?_
        refine xr_iconst (v := 5) C dL_law_161 rfl ?_
        refine xr_iadd C dL_law_162 ?_
        obtain ⟨x45, b44, v44, hm⟩ := hm
        refine xr_sld C hnm b44 v44 dL_law_163 ?_
        refine xr_i2l (v := x45.toInt64) C dL_law_164 rfl ?_
        refine xr_bipush (v := 32) C dL_law_165 rfl ?_
        refine xr_lshl (v := x45.toInt64 <<< ((32 : Int32).toInt64 &&& 63)) C dL_law_167 rfl ?_
        refine xr_aload_n (r := (some b)) C dL_law_168 0 rfl ?_
        refine xr_iload_n C dL_law_169 3 rfl ?_
        refine xr_bipush (v := 6) C dL_law_170 rfl ?_
        refine xr_iadd C dL_law_172 ?_
        obtain ⟨x47, b46, v46, hm⟩ := hm
        refine xr_sld C hnm b46 v46 dL_law_173 ?_
        refine xr_i2l (v := x47.toInt64) C dL_law_174 rfl ?_
        refine xr_ldc2 (v := 4294967295) C dL_law_175 wl_12 ?_
        refine xr_land C dL_law_178 ?_
        refine xr_lor C dL_law_179 ?_
        refine xr_topl (fun y48 e49 => ?_)
        replace hm := hm y48 e49
        obtain ⟨⟨fs51, e51⟩, hm⟩ := hm
        obtain ⟨mc52, ms53, kc54, ks55, kk51, kl51, hm⟩ := hm
        refine xr_cVi (n := 4) (As := [.int x35, .long y40, .int x43, .long y48]) (st := []) C (c_X11_card a1 x35 y40 x43 y48 h mc52 ms53 hm) e51 rfl wl_17 wl_19 wl_20 wl_9 wl_18 (by decide +kernel) rfl (by rw [hR.1, hR.2]; decide) kk51 kl51 rfl (Nat.le_of_ble_eq_true rfl) dL_law_180 (fun x56 h57 hn => ?_)
        clear hm
        have hm := hn
        clear hn
        refine xr_aload_n (r := (some a2)) C dL_law_183 2 rfl ?_
        refine xr_aload_n (r := (some b)) C dL_law_184 0 rfl ?_
        refine xr_iload_n C dL_law_185 3 rfl ?_
        refine xr_iconst (v := 1) C dL_law_186 rfl ?_
        refine xr_iadd C dL_law_187 ?_
        obtain ⟨x59, b58, v58, hm⟩ := hm
        refine xr_sld C hnm b58 v58 dL_law_188 ?_
        refine xr_aload_n (r := (some b)) C dL_law_189 0 rfl ?_
        refine xr_iload_n C dL_law_190 3 rfl ?_
        refine xr_iconst (v := 2) C dL_law_191 rfl ?_
        refine xr_iadd C dL_law_192 ?_
        obtain ⟨x61, b60, v60, hm⟩ := hm
        refine xr_sld C hnm b60 v60 dL_law_193 ?_
        refine xr_i2l (v := x61.toInt64) C dL_law_194 rfl ?_
        refine xr_bipush (v := 32) C dL_law_195 rfl ?_
        refine xr_lshl (v := x61.toInt64 <<< ((32 : Int32).toInt64 &&& 63)) C dL_law_197 rfl ?_
        refine xr_aload_n (r := (some b)) C dL_law_198 0 rfl ?_
        refine xr_iload_n C dL_law_199 3 rfl ?_
        refine xr_iconst (v := 3) C dL_law_200 rfl ?_
        refine xr_iadd C dL_law_201 ?_
        obtain ⟨x63, b62, v62, hm⟩ := hm
        refine xr_sld C hnm b62 v62 dL_law_202 ?_
        refine xr_i2l (v := x63.toInt64) C dL_law_203 rfl ?_
        refine xr_ldc2 (v := 4294967295) C dL_law_204 wl_12 ?_
        refine xr_land C dL_law_207 ?_
        refine xr_lor C dL_law_208 ?_
        refine xr_topl (fun y64 e65 => ?_)
        replace hm := hm y64 e65
        refine xr_aload_n (r := (some b)) C dL_law_209 0 rfl ?_
        refine xr_iload_n C dL_law_210 3 rfl ?_
        refine xr_iconst (v := 4) C dL_law_211 rfl ?_
        refine xr_iadd C dL_law_212 ?_
        obtain ⟨x67, b66, v66, hm⟩ := hm
        refine xr_sld C hnm b66 v66 dL_law_213 ?_
        refine xr_aload_n (r := (some b)) C dL_law_214 0 rfl ?_
        refine xr_iload_n C dL_law_215 3 rfl ?_
        refine xr_iconst (v := 5) C dL_law_216 rfl ?_
        refine xr_iadd C dL_law_217 ?_
        obtain ⟨x69, b68, v68, hm⟩ := hm
        refine xr_sld C hnm b68 v68 dL_law_218 ?_
        refine xr_i2l (v := x69.toInt64) C dL_law_219 rfl ?_
        refine xr_bipush (v := 32) C dL_law_220 rfl ?_
        refine xr_lshl (v := x69.toInt64 <<< ((32 : Int32).toInt64 &&& 63)) C dL_law_222 rfl ?_
        refine xr_aload_n (r := (some b)) C dL_law_223 0 rfl ?_
        refine xr_iload_n C dL_law_224 3 rfl ?_
        refine xr_bipush (v := 6) C dL_law_225 rfl ?_
        refine xr_iadd C dL_law_227 ?_
        obtain ⟨x71, b70, v70, hm⟩ := hm
        refine xr_sld C hnm b70 v70 dL_law_228 ?_
        refine xr_i2l (v := x71.toInt64) C dL_law_229 rfl ?_
        refine xr_ldc2 (v := 4294967295) C dL_law_230 wl_12 ?_
        refine xr_land C dL_law_233 ?_
        refine xr_lor C dL_law_234 ?_
        refine xr_topl (fun y72 e73 => ?_)
        replace hm := hm y72 e73
        obtain ⟨⟨fs75, e75⟩, hm⟩ := hm
        refine xr_cVi (n := 4) (As := [.int x59, .long y64, .int x67, .long y72]) (st := [.int x56]) C (c_X12_card a2 x59 y64 x67 y72 h57 0 0 hm) e75 rfl wl_13 wl_15 wl_16 wl_3 wl_14 (by decide +kernel) rfl (by rw [hR.1, hR.2]; decide) (Nat.zero_add _).symm (Nat.zero_add _).symm rfl (Nat.le_of_ble_eq_true rfl) dL_law_235 (fun x76 h77 hn => ?_)
        clear hm
        have hm := hn
        clear hn
        refine xr_icmp_eq (tgt := 902) C dL_law_238 (by decide) (fun q78 => ?_) (fun q78 => ?_)
        · replace hm := hm.1 q78
          exact k_L_law_L902 C hr hlk hnm hR ih a1 a2 xv3 _ _ _ hm
        · replace hm := hm.2 q78
          refine xr_iconst (v := 0) C dL_law_241 rfl ?_
          exact xr_lawret C hr hlk hnm hm dL_law_242
      · replace hm := hm.2 q_0
        by_cases q_1 : (x33 &&& 31) = 1
        · replace hm := hm.1 q_1
          refine xr_tableIn (tgt := 243) C dL_law_33 (by rw [q_1]; decide) (by rw [q_1]; decide) (by rw [q_1] <;> rfl) (by decide) ?_
          refine xr_aload_n (r := (some a1)) C dL_law_243 1 rfl ?_
          refine xr_aload_n (r := (some b)) C dL_law_244 0 rfl ?_
          refine xr_iload_n C dL_law_245 3 rfl ?_
          refine xr_iconst (v := 1) C dL_law_246 rfl ?_
          refine xr_iadd C dL_law_247 ?_
          obtain ⟨x80, b79, v79, hm⟩ := hm
          refine xr_sld C hnm b79 v79 dL_law_248 ?_
          refine xr_i2l (v := x80.toInt64) C dL_law_249 rfl ?_
          refine xr_bipush (v := 32) C dL_law_250 rfl ?_
          refine xr_lshl (v := x80.toInt64 <<< ((32 : Int32).toInt64 &&& 63)) C dL_law_252 rfl ?_
          refine xr_aload_n (r := (some b)) C dL_law_253 0 rfl ?_
          refine xr_iload_n C dL_law_254 3 rfl ?_
          refine xr_iconst (v := 2) C dL_law_255 rfl ?_
          refine xr_iadd C dL_law_256 ?_
          obtain ⟨x82, b81, v81, hm⟩ := hm
          refine xr_sld C hnm b81 v81 dL_law_257 ?_
          refine xr_i2l (v := x82.toInt64) C dL_law_258 rfl ?_
          refine xr_ldc2 (v := 4294967295) C dL_law_259 wl_12 ?_
          refine xr_land C dL_law_262 ?_
          refine xr_lor C dL_law_263 ?_
          refine xr_topl (fun y83 e84 => ?_)
          replace hm := hm y83 e84
          refine xr_aload_n (r := (some b)) C dL_law_264 0 rfl ?_
          refine xr_iload_n C dL_law_265 3 rfl ?_
          refine xr_iconst (v := 3) C dL_law_266 rfl ?_
          refine xr_iadd C dL_law_267 ?_
          obtain ⟨x86, b85, v85, hm⟩ := hm
          refine xr_sld C hnm b85 v85 dL_law_268 ?_
          refine xr_i2l (v := x86.toInt64) C dL_law_269 rfl ?_
          refine xr_bipush (v := 32) C dL_law_270 rfl ?_
          refine xr_lshl (v := x86.toInt64 <<< ((32 : Int32).toInt64 &&& 63)) C dL_law_272 rfl ?_
          refine xr_aload_n (r := (some b)) C dL_law_273 0 rfl ?_
          refine xr_iload_n C dL_law_274 3 rfl ?_
          refine xr_iconst (v := 4) C dL_law_275 rfl ?_
          refine xr_iadd C dL_law_276 ?_
          obtain ⟨x88, b87, v87, hm⟩ := hm
          refine xr_sld C hnm b87 v87 dL_law_277 ?_
          refine xr_i2l (v := x88.toInt64) C dL_law_278 rfl ?_
          refine xr_ldc2 (v := 4294967295) C dL_law_279 wl_12 ?_
          refine xr_land C dL_law_282 ?_
          refine xr_lor C dL_law_283 ?_
          refine xr_topl (fun y89 e90 => ?_)
          replace hm := hm y89 e90
          obtain ⟨⟨fs92, e92⟩, hm⟩ := hm
          obtain ⟨mc93, ms94, kc95, ks96, kk92, kl92, hm⟩ := hm
          refine xr_cVi (n := 2) (As := [.long y83, .long y89]) (st := []) C (c_X11_terminal a1 y83 y89 h mc93 ms94 hm) e92 rfl wl_25 wl_27 wl_28 wl_9 wl_26 (by decide +kernel) rfl (by rw [hR.1, hR.2]; decide) kk92 kl92 rfl (Nat.le_of_ble_eq_true rfl) dL_law_284 (fun x97 h98 hn => ?_)
          clear hm
          have hm := hn
          clear hn
          refine xr_aload_n (r := (some a2)) C dL_law_287 2 rfl ?_
          refine xr_aload_n (r := (some b)) C dL_law_288 0 rfl ?_
          refine xr_iload_n C dL_law_289 3 rfl ?_
          refine xr_iconst (v := 1) C dL_law_290 rfl ?_
          refine xr_iadd C dL_law_291 ?_
          obtain ⟨x100, b99, v99, hm⟩ := hm
          refine xr_sld C hnm b99 v99 dL_law_292 ?_
          refine xr_i2l (v := x100.toInt64) C dL_law_293 rfl ?_
          refine xr_bipush (v := 32) C dL_law_294 rfl ?_
          refine xr_lshl (v := x100.toInt64 <<< ((32 : Int32).toInt64 &&& 63)) C dL_law_296 rfl ?_
          refine xr_aload_n (r := (some b)) C dL_law_297 0 rfl ?_
          refine xr_iload_n C dL_law_298 3 rfl ?_
          refine xr_iconst (v := 2) C dL_law_299 rfl ?_
          refine xr_iadd C dL_law_300 ?_
          obtain ⟨x102, b101, v101, hm⟩ := hm
          refine xr_sld C hnm b101 v101 dL_law_301 ?_
          refine xr_i2l (v := x102.toInt64) C dL_law_302 rfl ?_
          refine xr_ldc2 (v := 4294967295) C dL_law_303 wl_12 ?_
          refine xr_land C dL_law_306 ?_
          refine xr_lor C dL_law_307 ?_
          refine xr_topl (fun y103 e104 => ?_)
          replace hm := hm y103 e104
          refine xr_aload_n (r := (some b)) C dL_law_308 0 rfl ?_
          refine xr_iload_n C dL_law_309 3 rfl ?_
          refine xr_iconst (v := 3) C dL_law_310 rfl ?_
          refine xr_iadd C dL_law_311 ?_
          obtain ⟨x106, b105, v105, hm⟩ := hm
          refine xr_sld C hnm b105 v105 dL_law_312 ?_
          refine xr_i2l (v := x106.toInt64) C dL_law_313 rfl ?_
          refine xr_bipush (v := 32) C dL_law_314 rfl ?_
          refine xr_lshl (v := x106.toInt64 <<< ((32 : Int32).toInt64 &&& 63)) C dL_law_316 rfl ?_
          refine xr_aload_n (r := (some b)) C dL_law_317 0 rfl ?_
          refine xr_iload_n C dL_law_318 3 rfl ?_
          refine xr_iconst (v := 4) C dL_law_319 rfl ?_
          refine xr_iadd C dL_law_320 ?_
          obtain ⟨x108, b107, v107, hm⟩ := hm
          refine xr_sld C hnm b107 v107 dL_law_321 ?_
          refine xr_i2l (v := x108.toInt64) C dL_law_322 rfl ?_
          refine xr_ldc2 (v := 4294967295) C dL_law_323 wl_12 ?_
          refine xr_land C dL_law_326 ?_
          refine xr_lor C dL_law_327 ?_
          refine xr_topl (fun y109 e110 => ?_)
          replace hm := hm y109 e110
          obtain ⟨⟨fs112, e112⟩, hm⟩ := hm
          refine xr_cVi (n := 2) (As := [.long y103, .long y109]) (st := [.int x97]) C (c_X12_terminal a2 y103 y109 h98 0 0 hm) e112 rfl wl_21 wl_23 wl_24 wl_3 wl_22 (by decide +kernel) rfl (by rw [hR.1, hR.2]; decide) (Nat.zero_add _).symm (Nat.zero_add _).symm rfl (Nat.le_of_ble_eq_true rfl) dL_law_328 (fun x113 h114 hn => ?_)
          clear hm
          have hm := hn
          clear hn
          refine xr_icmp_eq (tgt := 902) C dL_law_331 (by decide) (fun q115 => ?_) (fun q115 => ?_)
          · replace hm := hm.1 q115
            exact k_L_law_L902 C hr hlk hnm hR ih a1 a2 xv3 _ _ _ hm
          · replace hm := hm.2 q115
            refine xr_iconst (v := 0) C dL_law_334 rfl ?_
            exact xr_lawret C hr hlk hnm hm dL_law_335
        · replace hm := hm.2 q_1
          by_cases q_2 : (x33 &&& 31) = 2
          · replace hm := hm.1 q_2
            refine xr_tableIn (tgt := 336) C dL_law_33 (by rw [q_2]; decide) (by rw [q_2]; decide) (by rw [q_2] <;> rfl) (by decide) ?_
            refine xr_aload_n (r := (some a1)) C dL_law_336 1 rfl ?_
            refine xr_aload_n (r := (some b)) C dL_law_337 0 rfl ?_
            refine xr_iload_n C dL_law_338 3 rfl ?_
            refine xr_iconst (v := 1) C dL_law_339 rfl ?_
            refine xr_iadd C dL_law_340 ?_
            obtain ⟨x117, b116, v116, hm⟩ := hm
            refine xr_sld C hnm b116 v116 dL_law_341 ?_
            refine xr_aload_n (r := (some b)) C dL_law_342 0 rfl ?_
            refine xr_iload_n C dL_law_343 3 rfl ?_
            refine xr_iconst (v := 2) C dL_law_344 rfl ?_
            refine xr_iadd C dL_law_345 ?_
            obtain ⟨x119, b118, v118, hm⟩ := hm
            refine xr_sld C hnm b118 v118 dL_law_346 ?_
            refine xr_aload_n (r := (some b)) C dL_law_347 0 rfl ?_
            refine xr_iload_n C dL_law_348 3 rfl ?_
            refine xr_iconst (v := 3) C dL_law_349 rfl ?_
            refine xr_iadd C dL_law_350 ?_
            obtain ⟨x121, b120, v120, hm⟩ := hm
            refine xr_sld C hnm b120 v120 dL_law_351 ?_
            refine xr_i2l (v := x121.toInt64) C dL_law_352 rfl ?_
            refine xr_bipush (v := 32) C dL_law_353 rfl ?_
            refine xr_lshl (v := x121.toInt64 <<< ((32 : Int32).toInt64 &&& 63)) C dL_law_355 rfl ?_
            refine xr_aload_n (r := (some b)) C dL_law_356 0 rfl ?_
            refine xr_iload_n C dL_law_357 3 rfl ?_
            refine xr_iconst (v := 4) C dL_law_358 rfl ?_
            refine xr_iadd C dL_law_359 ?_
            obtain ⟨x123, b122, v122, hm⟩ := hm
            refine xr_sld C hnm b122 v122 dL_law_360 ?_
            refine xr_i2l (v := x123.toInt64) C dL_law_361 rfl ?_
            refine xr_ldc2 (v := 4294967295) C dL_law_362 wl_12 ?_
            refine xr_land C dL_law_365 ?_
            refine xr_lor C dL_law_366 ?_
            refine xr_topl (fun y124 e125 => ?_)
            replace hm := hm y124 e125
            refine xr_aload_n (r := (some b)) C dL_law_367 0 rfl ?_
            refine xr_iload_n C dL_law_368 3 rfl ?_
            refine xr_iconst (v := 5) C dL_law_369 rfl ?_
            refine xr_iadd C dL_law_370 ?_
            obtain ⟨x127, b126, v126, hm⟩ := hm
            refine xr_sld C hnm b126 v126 dL_law_371 ?_
            obtain ⟨⟨fs129, e129⟩, hm⟩ := hm
            obtain ⟨mc130, ms131, kc132, ks133, kk129, kl129, hm⟩ := hm
            refine xr_cVi (n := 4) (As := [.int x117, .int x119, .long y124, .int x127]) (st := []) C (c_X11_purchase a1 x117 x119 y124 x127 h mc130 ms131 hm) e129 rfl wl_33 wl_35 wl_36 wl_9 wl_34 (by decide +kernel) rfl (by rw [hR.1, hR.2]; decide) kk129 kl129 rfl (Nat.le_of_ble_eq_true rfl) dL_law_372 (fun x134 h135 hn => ?_)
            clear hm
            have hm := hn
            clear hn
            refine xr_aload_n (r := (some a2)) C dL_law_375 2 rfl ?_
            refine xr_aload_n (r := (some b)) C dL_law_376 0 rfl ?_
            refine xr_iload_n C dL_law_377 3 rfl ?_
            refine xr_iconst (v := 1) C dL_law_378 rfl ?_
            refine xr_iadd C dL_law_379 ?_
            obtain ⟨x137, b136, v136, hm⟩ := hm
            refine xr_sld C hnm b136 v136 dL_law_380 ?_
            refine xr_aload_n (r := (some b)) C dL_law_381 0 rfl ?_
            refine xr_iload_n C dL_law_382 3 rfl ?_
            refine xr_iconst (v := 2) C dL_law_383 rfl ?_
            refine xr_iadd C dL_law_384 ?_
            obtain ⟨x139, b138, v138, hm⟩ := hm
            refine xr_sld C hnm b138 v138 dL_law_385 ?_
            refine xr_aload_n (r := (some b)) C dL_law_386 0 rfl ?_
            refine xr_iload_n C dL_law_387 3 rfl ?_
            refine xr_iconst (v := 3) C dL_law_388 rfl ?_
            refine xr_iadd C dL_law_389 ?_
            obtain ⟨x141, b140, v140, hm⟩ := hm
            refine xr_sld C hnm b140 v140 dL_law_390 ?_
            refine xr_i2l (v := x141.toInt64) C dL_law_391 rfl ?_
            refine xr_bipush (v := 32) C dL_law_392 rfl ?_
            refine xr_lshl (v := x141.toInt64 <<< ((32 : Int32).toInt64 &&& 63)) C dL_law_394 rfl ?_
            refine xr_aload_n (r := (some b)) C dL_law_395 0 rfl ?_
            refine xr_iload_n C dL_law_396 3 rfl ?_
            refine xr_iconst (v := 4) C dL_law_397 rfl ?_
            refine xr_iadd C dL_law_398 ?_
            obtain ⟨x143, b142, v142, hm⟩ := hm
            refine xr_sld C hnm b142 v142 dL_law_399 ?_
            refine xr_i2l (v := x143.toInt64) C dL_law_400 rfl ?_
            refine xr_ldc2 (v := 4294967295) C dL_law_401 wl_12 ?_
            refine xr_land C dL_law_404 ?_
            refine xr_lor C dL_law_405 ?_
            refine xr_topl (fun y144 e145 => ?_)
            replace hm := hm y144 e145
            refine xr_aload_n (r := (some b)) C dL_law_406 0 rfl ?_
            refine xr_iload_n C dL_law_407 3 rfl ?_
            refine xr_iconst (v := 5) C dL_law_408 rfl ?_
            refine xr_iadd C dL_law_409 ?_
            obtain ⟨x147, b146, v146, hm⟩ := hm
            refine xr_sld C hnm b146 v146 dL_law_410 ?_
            obtain ⟨⟨fs149, e149⟩, hm⟩ := hm
            refine xr_cVi (n := 4) (As := [.int x137, .int x139, .long y144, .int x147]) (st := [.int x134]) C (c_X12_purchase a2 x137 x139 y144 x147 h135 0 0 hm) e149 rfl wl_29 wl_31 wl_32 wl_3 wl_30 (by decide +kernel) rfl (by rw [hR.1, hR.2]; decide) (Nat.zero_add _).symm (Nat.zero_add _).symm rfl (Nat.le_of_ble_eq_true rfl) dL_law_411 (fun x150 h151 hn => ?_)
            clear hm
            have hm := hn
            clear hn
            refine xr_icmp_eq (tgt := 902) C dL_law_414 (by decide) (fun q152 => ?_) (fun q152 => ?_)
            · replace hm := hm.1 q152
              exact k_L_law_L902 C hr hlk hnm hR ih a1 a2 xv3 _ _ _ hm
            · replace hm := hm.2 q152
              refine xr_iconst (v := 0) C dL_law_417 rfl ?_
              exact xr_lawret C hr hlk hnm hm dL_law_418
          · replace hm := hm.2 q_2
            by_cases q_3 : (x33 &&& 31) = 3
            · replace hm := hm.1 q_3
              refine xr_tableIn (tgt := 419) C dL_law_33 (by rw [q_3]; decide) (by rw [q_3]; decide) (by rw [q_3] <;> rfl) (by decide) ?_
              refine xr_aload_n (r := (some a1)) C dL_law_419 1 rfl ?_
              refine xr_aload_n (r := (some b)) C dL_law_420 0 rfl ?_
              refine xr_iload_n C dL_law_421 3 rfl ?_
              refine xr_iconst (v := 1) C dL_law_422 rfl ?_
              refine xr_iadd C dL_law_423 ?_
              obtain ⟨x154, b153, v153, hm⟩ := hm
              refine xr_sld C hnm b153 v153 dL_law_424 ?_
              obtain ⟨⟨fs156, e156⟩, hm⟩ := hm
              obtain ⟨mc157, ms158, kc159, ks160, kk156, kl156, hm⟩ := hm
              refine xr_cVi (n := 1) (As := [.int x154]) (st := []) C (c_X11_deliver a1 x154 h mc157 ms158 hm) e156 rfl wl_41 wl_43 wl_44 wl_9 wl_42 (by decide +kernel) rfl (by rw [hR.1, hR.2]; decide) kk156 kl156 rfl (Nat.le_of_ble_eq_true rfl) dL_law_425 (fun x161 h162 hn => ?_)
              clear hm
              have hm := hn
              clear hn
              refine xr_aload_n (r := (some a2)) C dL_law_428 2 rfl ?_
              refine xr_aload_n (r := (some b)) C dL_law_429 0 rfl ?_
              refine xr_iload_n C dL_law_430 3 rfl ?_
              refine xr_iconst (v := 1) C dL_law_431 rfl ?_
              refine xr_iadd C dL_law_432 ?_
              obtain ⟨x164, b163, v163, hm⟩ := hm
              refine xr_sld C hnm b163 v163 dL_law_433 ?_
              obtain ⟨⟨fs166, e166⟩, hm⟩ := hm
              refine xr_cVi (n := 1) (As := [.int x164]) (st := [.int x161]) C (c_X12_deliver a2 x164 h162 0 0 hm) e166 rfl wl_37 wl_39 wl_40 wl_3 wl_38 (by decide +kernel) rfl (by rw [hR.1, hR.2]; decide) (Nat.zero_add _).symm (Nat.zero_add _).symm rfl (Nat.le_of_ble_eq_true rfl) dL_law_434 (fun x167 h168 hn => ?_)
              clear hm
              have hm := hn
              clear hn
              refine xr_icmp_eq (tgt := 902) C dL_law_437 (by decide) (fun q169 => ?_) (fun q169 => ?_)
              · replace hm := hm.1 q169
                exact k_L_law_L902 C hr hlk hnm hR ih a1 a2 xv3 _ _ _ hm
              · replace hm := hm.2 q169
                refine xr_iconst (v := 0) C dL_law_440 rfl ?_
                exact xr_lawret C hr hlk hnm hm dL_law_441
            · replace hm := hm.2 q_3
              by_cases q_4 : (x33 &&& 31) = 4
              · replace hm := hm.1 q_4
                refine xr_tableIn (tgt := 442) C dL_law_33 (by rw [q_4]; decide) (by rw [q_4]; decide) (by rw [q_4] <;> rfl) (by decide) ?_
                refine xr_aload_n (r := (some a1)) C dL_law_442 1 rfl ?_
                refine xr_aload_n (r := (some b)) C dL_law_443 0 rfl ?_
                refine xr_iload_n C dL_law_444 3 rfl ?_
                refine xr_iconst (v := 1) C dL_law_445 rfl ?_
                refine xr_iadd C dL_law_446 ?_
                obtain ⟨x171, b170, v170, hm⟩ := hm
                refine xr_sld C hnm b170 v170 dL_law_447 ?_
                refine xr_aload_n (r := (some b)) C dL_law_448 0 rfl ?_
                refine xr_iload_n C dL_law_449 3 rfl ?_
                refine xr_iconst (v := 2) C dL_law_450 rfl ?_
                refine xr_iadd C dL_law_451 ?_
                obtain ⟨x173, b172, v172, hm⟩ := hm
                refine xr_sld C hnm b172 v172 dL_law_452 ?_
                refine xr_aload_n (r := (some b)) C dL_law_453 0 rfl ?_
                refine xr_iload_n C dL_law_454 3 rfl ?_
                refine xr_iconst (v := 3) C dL_law_455 rfl ?_
                refine xr_iadd C dL_law_456 ?_
                obtain ⟨x175, b174, v174, hm⟩ := hm
                refine xr_sld C hnm b174 v174 dL_law_457 ?_
                obtain ⟨⟨fs177, e177⟩, hm⟩ := hm
                refine xr_cVi (n := 3) (As := [.int x171, .int x173, .int x175]) (st := []) C (c_X11_alter a1 x171 x173 x175 h 0 0 hm) e177 rfl wl_49 wl_51 wl_52 wl_9 wl_50 (by decide +kernel) rfl (by rw [hR.1, hR.2]; decide) (Nat.zero_add _).symm (Nat.zero_add _).symm rfl (Nat.le_of_ble_eq_true rfl) dL_law_458 (fun x178 h179 hn => ?_)
                clear hm
                have hm := hn
                clear hn
                refine xr_aload_n (r := (some a2)) C dL_law_461 2 rfl ?_
                refine xr_aload_n (r := (some b)) C dL_law_462 0 rfl ?_
                refine xr_iload_n C dL_law_463 3 rfl ?_
                refine xr_iconst (v := 1) C dL_law_464 rfl ?_
                refine xr_iadd C dL_law_465 ?_
                obtain ⟨x181, b180, v180, hm⟩ := hm
                refine xr_sld C hnm b180 v180 dL_law_466 ?_
                refine xr_aload_n (r := (some b)) C dL_law_467 0 rfl ?_
                refine xr_iload_n C dL_law_468 3 rfl ?_
                refine xr_iconst (v := 2) C dL_law_469 rfl ?_
                refine xr_iadd C dL_law_470 ?_
                obtain ⟨x183, b182, v182, hm⟩ := hm
                refine xr_sld C hnm b182 v182 dL_law_471 ?_
                refine xr_aload_n (r := (some b)) C dL_law_472 0 rfl ?_
                refine xr_iload_n C dL_law_473 3 rfl ?_
                refine xr_iconst (v := 3) C dL_law_474 rfl ?_
                refine xr_iadd C dL_law_475 ?_
                obtain ⟨x185, b184, v184, hm⟩ := hm
                refine xr_sld C hnm b184 v184 dL_law_476 ?_
                obtain ⟨⟨fs187, e187⟩, hm⟩ := hm
                refine xr_cVi (n := 3) (As := [.int x181, .int x183, .int x185]) (st := [.int x178]) C (c_X12_alter a2 x181 x183 x185 h179 0 0 hm) e187 rfl wl_45 wl_47 wl_48 wl_3 wl_46 (by decide +kernel) rfl (by rw [hR.1, hR.2]; decide) (Nat.zero_add _).symm (Nat.zero_add _).symm rfl (Nat.le_of_ble_eq_true rfl) dL_law_477 (fun x188 h189 hn => ?_)
                clear hm
                have hm := hn
                clear hn
                refine xr_icmp_eq (tgt := 902) C dL_law_480 (by decide) (fun q190 => ?_) (fun q190 => ?_)
                · replace hm := hm.1 q190
                  exact k_L_law_L902 C hr hlk hnm hR ih a1 a2 xv3 _ _ _ hm
                · replace hm := hm.2 q190
                  refine xr_iconst (v := 0) C dL_law_483 rfl ?_
                  exact xr_lawret C hr hlk hnm hm dL_law_484
              · replace hm := hm.2 q_4
                by_cases q_5 : (x33 &&& 31) = 5
                · replace hm := hm.1 q_5
                  refine xr_tableIn (tgt := 485) C dL_law_33 (by rw [q_5]; decide) (by rw [q_5]; decide) (by rw [q_5] <;> rfl) (by decide) ?_
                  refine xr_aload_n (r := (some a1)) C dL_law_485 1 rfl ?_
                  refine xr_aload_n (r := (some b)) C dL_law_486 0 rfl ?_
                  refine xr_iload_n C dL_law_487 3 rfl ?_
                  refine xr_iconst (v := 1) C dL_law_488 rfl ?_
                  refine xr_iadd C dL_law_489 ?_
                  obtain ⟨x192, b191, v191, hm⟩ := hm
                  refine xr_sld C hnm b191 v191 dL_law_490 ?_
                  obtain ⟨⟨fs194, e194⟩, hm⟩ := hm
                  refine xr_cVi (n := 1) (As := [.int x192]) (st := []) C (c_X11_drop a1 x192 h 0 0 hm) e194 rfl wl_57 wl_59 wl_60 wl_9 wl_58 (by decide +kernel) rfl (by rw [hR.1, hR.2]; decide) (Nat.zero_add _).symm (Nat.zero_add _).symm rfl (Nat.le_of_ble_eq_true rfl) dL_law_491 (fun x195 h196 hn => ?_)
                  clear hm
                  have hm := hn
                  clear hn
                  refine xr_aload_n (r := (some a2)) C dL_law_494 2 rfl ?_
                  refine xr_aload_n (r := (some b)) C dL_law_495 0 rfl ?_
                  refine xr_iload_n C dL_law_496 3 rfl ?_
                  refine xr_iconst (v := 1) C dL_law_497 rfl ?_
                  refine xr_iadd C dL_law_498 ?_
                  obtain ⟨x198, b197, v197, hm⟩ := hm
                  refine xr_sld C hnm b197 v197 dL_law_499 ?_
                  obtain ⟨⟨fs200, e200⟩, hm⟩ := hm
                  refine xr_cVi (n := 1) (As := [.int x198]) (st := [.int x195]) C (c_X12_drop a2 x198 h196 0 0 hm) e200 rfl wl_53 wl_55 wl_56 wl_3 wl_54 (by decide +kernel) rfl (by rw [hR.1, hR.2]; decide) (Nat.zero_add _).symm (Nat.zero_add _).symm rfl (Nat.le_of_ble_eq_true rfl) dL_law_500 (fun x201 h202 hn => ?_)
                  clear hm
                  have hm := hn
                  clear hn
                  refine xr_icmp_eq (tgt := 902) C dL_law_503 (by decide) (fun q203 => ?_) (fun q203 => ?_)
                  · replace hm := hm.1 q203
                    exact k_L_law_L902 C hr hlk hnm hR ih a1 a2 xv3 _ _ _ hm
                  · replace hm := hm.2 q203
                    refine xr_iconst (v := 0) C dL_law_506 rfl ?_
                    exact xr_lawret C hr hlk hnm hm dL_law_507
                · replace hm := hm.2 q_5
                  by_cases q_6 : (x33 &&& 31) = 6
                  · replace hm := hm.1 q_6
                    refine xr_tableIn (tgt := 508) C dL_law_33 (by rw [q_6]; decide) (by rw [q_6]; decide) (by rw [q_6] <;> rfl) (by decide) ?_
                    refine xr_aload_n (r := (some a1)) C dL_law_508 1 rfl ?_
                    refine xr_aload_n (r := (some b)) C dL_law_509 0 rfl ?_
                    refine xr_iload_n C dL_law_510 3 rfl ?_
                    refine xr_iconst (v := 1) C dL_law_511 rfl ?_
                    refine xr_iadd C dL_law_512 ?_
                    obtain ⟨x205, b204, v204, hm⟩ := hm
                    refine xr_sld C hnm b204 v204 dL_law_513 ?_
                    obtain ⟨⟨fs207, e207⟩, hm⟩ := hm
                    obtain ⟨mc208, ms209, kc210, ks211, kk207, kl207, hm⟩ := hm
                    refine xr_cVi (n := 1) (As := [.int x205]) (st := []) C (c_X11_again a1 x205 h mc208 ms209 hm) e207 rfl wl_65 wl_67 wl_68 wl_9 wl_66 (by decide +kernel) rfl (by rw [hR.1, hR.2]; decide) kk207 kl207 rfl (Nat.le_of_ble_eq_true rfl) dL_law_514 (fun x212 h213 hn => ?_)
                    clear hm
                    have hm := hn
                    clear hn
                    refine xr_aload_n (r := (some a2)) C dL_law_517 2 rfl ?_
                    refine xr_aload_n (r := (some b)) C dL_law_518 0 rfl ?_
                    refine xr_iload_n C dL_law_519 3 rfl ?_
                    refine xr_iconst (v := 1) C dL_law_520 rfl ?_
                    refine xr_iadd C dL_law_521 ?_
                    obtain ⟨x215, b214, v214, hm⟩ := hm
                    refine xr_sld C hnm b214 v214 dL_law_522 ?_
                    obtain ⟨⟨fs217, e217⟩, hm⟩ := hm
                    refine xr_cVi (n := 1) (As := [.int x215]) (st := [.int x212]) C (c_X12_again a2 x215 h213 0 0 hm) e217 rfl wl_61 wl_63 wl_64 wl_3 wl_62 (by decide +kernel) rfl (by rw [hR.1, hR.2]; decide) (Nat.zero_add _).symm (Nat.zero_add _).symm rfl (Nat.le_of_ble_eq_true rfl) dL_law_523 (fun x218 h219 hn => ?_)
                    clear hm
                    have hm := hn
                    clear hn
                    refine xr_icmp_eq (tgt := 902) C dL_law_526 (by decide) (fun q220 => ?_) (fun q220 => ?_)
                    · replace hm := hm.1 q220
                      exact k_L_law_L902 C hr hlk hnm hR ih a1 a2 xv3 _ _ _ hm
                    · replace hm := hm.2 q220
                      refine xr_iconst (v := 0) C dL_law_529 rfl ?_
                      exact xr_lawret C hr hlk hnm hm dL_law_530
                  · replace hm := hm.2 q_6
                    by_cases q_7 : (x33 &&& 31) = 7
                    · replace hm := hm.1 q_7
                      refine xr_tableIn (tgt := 531) C dL_law_33 (by rw [q_7]; decide) (by rw [q_7]; decide) (by rw [q_7] <;> rfl) (by decide) ?_
                      refine xr_aload_n (r := (some a1)) C dL_law_531 1 rfl ?_
                      refine xr_aload_n (r := (some b)) C dL_law_532 0 rfl ?_
                      refine xr_iload_n C dL_law_533 3 rfl ?_
                      refine xr_iconst (v := 1) C dL_law_534 rfl ?_
                      refine xr_iadd C dL_law_535 ?_
                      obtain ⟨x222, b221, v221, hm⟩ := hm
                      refine xr_sld C hnm b221 v221 dL_law_536 ?_
                      obtain ⟨⟨fs224, e224⟩, hm⟩ := hm
                      refine xr_cVi (n := 1) (As := [.int x222]) (st := []) C (c_X11_put a1 x222 h 0 0 hm) e224 rfl wl_73 wl_75 wl_76 wl_9 wl_74 (by decide +kernel) rfl (by rw [hR.1, hR.2]; decide) (Nat.zero_add _).symm (Nat.zero_add _).symm rfl (Nat.le_of_ble_eq_true rfl) dL_law_537 (fun x225 h226 hn => ?_)
                      clear hm
                      have hm := hn
                      clear hn
                      refine xr_aload_n (r := (some a2)) C dL_law_540 2 rfl ?_
                      refine xr_aload_n (r := (some b)) C dL_law_541 0 rfl ?_
                      refine xr_iload_n C dL_law_542 3 rfl ?_
                      refine xr_iconst (v := 1) C dL_law_543 rfl ?_
                      refine xr_iadd C dL_law_544 ?_
                      obtain ⟨x228, b227, v227, hm⟩ := hm
                      refine xr_sld C hnm b227 v227 dL_law_545 ?_
                      obtain ⟨⟨fs230, e230⟩, hm⟩ := hm
                      refine xr_cVi (n := 1) (As := [.int x228]) (st := [.int x225]) C (c_X12_put a2 x228 h226 0 0 hm) e230 rfl wl_69 wl_71 wl_72 wl_3 wl_70 (by decide +kernel) rfl (by rw [hR.1, hR.2]; decide) (Nat.zero_add _).symm (Nat.zero_add _).symm rfl (Nat.le_of_ble_eq_true rfl) dL_law_546 (fun x231 h232 hn => ?_)
                      clear hm
                      have hm := hn
                      clear hn
                      refine xr_icmp_eq (tgt := 902) C dL_law_549 (by decide) (fun q233 => ?_) (fun q233 => ?_)
                      · replace hm := hm.1 q233
                        exact k_L_law_L902 C hr hlk hnm hR ih a1 a2 xv3 _ _ _ hm
                      · replace hm := hm.2 q233
                        refine xr_iconst (v := 0) C dL_law_552 rfl ?_
                        exact xr_lawret C hr hlk hnm hm dL_law_553
                    · replace hm := hm.2 q_7
                      by_cases q_8 : (x33 &&& 31) = 8
                      · replace hm := hm.1 q_8
                        refine xr_tableIn (tgt := 554) C dL_law_33 (by rw [q_8]; decide) (by rw [q_8]; decide) (by rw [q_8] <;> rfl) (by decide) ?_
                        refine xr_aload_n (r := (some a1)) C dL_law_554 1 rfl ?_
                        refine xr_aload_n (r := (some b)) C dL_law_555 0 rfl ?_
                        refine xr_iload_n C dL_law_556 3 rfl ?_
                        refine xr_iconst (v := 1) C dL_law_557 rfl ?_
                        refine xr_iadd C dL_law_558 ?_
                        obtain ⟨x235, b234, v234, hm⟩ := hm
                        refine xr_sld C hnm b234 v234 dL_law_559 ?_
                        refine xr_aload_n (r := (some b)) C dL_law_560 0 rfl ?_
                        refine xr_iload_n C dL_law_561 3 rfl ?_
                        refine xr_iconst (v := 2) C dL_law_562 rfl ?_
                        refine xr_iadd C dL_law_563 ?_
                        obtain ⟨x237, b236, v236, hm⟩ := hm
                        refine xr_sld C hnm b236 v236 dL_law_564 ?_
                        refine xr_aload_n (r := (some b)) C dL_law_565 0 rfl ?_
                        refine xr_iload_n C dL_law_566 3 rfl ?_
                        refine xr_iconst (v := 3) C dL_law_567 rfl ?_
                        refine xr_iadd C dL_law_568 ?_
                        obtain ⟨x239, b238, v238, hm⟩ := hm
                        refine xr_sld C hnm b238 v238 dL_law_569 ?_
                        refine xr_aload_n (r := (some b)) C dL_law_570 0 rfl ?_
                        refine xr_iload_n C dL_law_571 3 rfl ?_
                        refine xr_iconst (v := 4) C dL_law_572 rfl ?_
                        refine xr_iadd C dL_law_573 ?_
                        obtain ⟨x241, b240, v240, hm⟩ := hm
                        refine xr_sld C hnm b240 v240 dL_law_574 ?_
                        obtain ⟨⟨fs243, e243⟩, hm⟩ := hm
                        obtain ⟨mc244, ms245, kc246, ks247, kk243, kl243, hm⟩ := hm
                        refine xr_cVi (n := 4) (As := [.int x235, .int x237, .int x239, .int x241]) (st := []) C (c_X11_inject a1 x235 x237 x239 x241 h mc244 ms245 hm) e243 rfl wl_81 wl_83 wl_84 wl_9 wl_82 (by decide +kernel) rfl (by rw [hR.1, hR.2]; decide) kk243 kl243 rfl (Nat.le_of_ble_eq_true rfl) dL_law_575 (fun x248 h249 hn => ?_)
                        clear hm
                        have hm := hn
                        clear hn
                        refine xr_aload_n (r := (some a2)) C dL_law_578 2 rfl ?_
                        refine xr_aload_n (r := (some b)) C dL_law_579 0 rfl ?_
                        refine xr_iload_n C dL_law_580 3 rfl ?_
                        refine xr_iconst (v := 1) C dL_law_581 rfl ?_
                        refine xr_iadd C dL_law_582 ?_
                        obtain ⟨x251, b250, v250, hm⟩ := hm
                        refine xr_sld C hnm b250 v250 dL_law_583 ?_
                        refine xr_aload_n (r := (some b)) C dL_law_584 0 rfl ?_
                        refine xr_iload_n C dL_law_585 3 rfl ?_
                        refine xr_iconst (v := 2) C dL_law_586 rfl ?_
                        refine xr_iadd C dL_law_587 ?_
                        obtain ⟨x253, b252, v252, hm⟩ := hm
                        refine xr_sld C hnm b252 v252 dL_law_588 ?_
                        refine xr_aload_n (r := (some b)) C dL_law_589 0 rfl ?_
                        refine xr_iload_n C dL_law_590 3 rfl ?_
                        refine xr_iconst (v := 3) C dL_law_591 rfl ?_
                        refine xr_iadd C dL_law_592 ?_
                        obtain ⟨x255, b254, v254, hm⟩ := hm
                        refine xr_sld C hnm b254 v254 dL_law_593 ?_
                        refine xr_aload_n (r := (some b)) C dL_law_594 0 rfl ?_
                        refine xr_iload_n C dL_law_595 3 rfl ?_
                        refine xr_iconst (v := 4) C dL_law_596 rfl ?_
                        refine xr_iadd C dL_law_597 ?_
                        obtain ⟨x257, b256, v256, hm⟩ := hm
                        refine xr_sld C hnm b256 v256 dL_law_598 ?_
                        obtain ⟨⟨fs259, e259⟩, hm⟩ := hm
                        refine xr_cVi (n := 4) (As := [.int x251, .int x253, .int x255, .int x257]) (st := [.int x248]) C (c_X12_inject a2 x251 x253 x255 x257 h249 0 0 hm) e259 rfl wl_77 wl_79 wl_80 wl_3 wl_78 (by decide +kernel) rfl (by rw [hR.1, hR.2]; decide) (Nat.zero_add _).symm (Nat.zero_add _).symm rfl (Nat.le_of_ble_eq_true rfl) dL_law_599 (fun x260 h261 hn => ?_)
                        clear hm
                        have hm := hn
                        clear hn
                        refine xr_icmp_eq (tgt := 902) C dL_law_602 (by decide) (fun q262 => ?_) (fun q262 => ?_)
                        · replace hm := hm.1 q262
                          exact k_L_law_L902 C hr hlk hnm hR ih a1 a2 xv3 _ _ _ hm
                        · replace hm := hm.2 q262
                          refine xr_iconst (v := 0) C dL_law_605 rfl ?_
                          exact xr_lawret C hr hlk hnm hm dL_law_606
                      · replace hm := hm.2 q_8
                        by_cases q_9 : (x33 &&& 31) = 9
                        · replace hm := hm.1 q_9
                          refine xr_tableIn (tgt := 607) C dL_law_33 (by rw [q_9]; decide) (by rw [q_9]; decide) (by rw [q_9] <;> rfl) (by decide) ?_
                          refine xr_aload_n (r := (some a1)) C dL_law_607 1 rfl ?_
                          refine xr_aload_n (r := (some b)) C dL_law_608 0 rfl ?_
                          refine xr_iload_n C dL_law_609 3 rfl ?_
                          refine xr_iconst (v := 1) C dL_law_610 rfl ?_
                          refine xr_iadd C dL_law_611 ?_
                          obtain ⟨x264, b263, v263, hm⟩ := hm
                          refine xr_sld C hnm b263 v263 dL_law_612 ?_
                          refine xr_aload_n (r := (some b)) C dL_law_613 0 rfl ?_
                          refine xr_iload_n C dL_law_614 3 rfl ?_
                          refine xr_iconst (v := 2) C dL_law_615 rfl ?_
                          refine xr_iadd C dL_law_616 ?_
                          obtain ⟨x266, b265, v265, hm⟩ := hm
                          refine xr_sld C hnm b265 v265 dL_law_617 ?_
                          obtain ⟨⟨fs268, e268⟩, hm⟩ := hm
                          refine xr_cVi (n := 2) (As := [.int x264, .int x266]) (st := []) C (c_X11_power a1 x264 x266 h 0 0 hm) e268 rfl wl_89 wl_91 wl_92 wl_9 wl_90 (by decide +kernel) rfl (by rw [hR.1, hR.2]; decide) (Nat.zero_add _).symm (Nat.zero_add _).symm rfl (Nat.le_of_ble_eq_true rfl) dL_law_618 (fun x269 h270 hn => ?_)
                          clear hm
                          have hm := hn
                          clear hn
                          refine xr_aload_n (r := (some a2)) C dL_law_621 2 rfl ?_
                          refine xr_aload_n (r := (some b)) C dL_law_622 0 rfl ?_
                          refine xr_iload_n C dL_law_623 3 rfl ?_
                          refine xr_iconst (v := 1) C dL_law_624 rfl ?_
                          refine xr_iadd C dL_law_625 ?_
                          obtain ⟨x272, b271, v271, hm⟩ := hm
                          refine xr_sld C hnm b271 v271 dL_law_626 ?_
                          refine xr_aload_n (r := (some b)) C dL_law_627 0 rfl ?_
                          refine xr_iload_n C dL_law_628 3 rfl ?_
                          refine xr_iconst (v := 2) C dL_law_629 rfl ?_
                          refine xr_iadd C dL_law_630 ?_
                          obtain ⟨x274, b273, v273, hm⟩ := hm
                          refine xr_sld C hnm b273 v273 dL_law_631 ?_
                          obtain ⟨⟨fs276, e276⟩, hm⟩ := hm
                          refine xr_cVi (n := 2) (As := [.int x272, .int x274]) (st := [.int x269]) C (c_X12_power a2 x272 x274 h270 0 0 hm) e276 rfl wl_85 wl_87 wl_88 wl_3 wl_86 (by decide +kernel) rfl (by rw [hR.1, hR.2]; decide) (Nat.zero_add _).symm (Nat.zero_add _).symm rfl (Nat.le_of_ble_eq_true rfl) dL_law_632 (fun x277 h278 hn => ?_)
                          clear hm
                          have hm := hn
                          clear hn
                          refine xr_icmp_eq (tgt := 902) C dL_law_635 (by decide) (fun q279 => ?_) (fun q279 => ?_)
                          · replace hm := hm.1 q279
                            exact k_L_law_L902 C hr hlk hnm hR ih a1 a2 xv3 _ _ _ hm
                          · replace hm := hm.2 q279
                            refine xr_iconst (v := 0) C dL_law_638 rfl ?_
                            exact xr_lawret C hr hlk hnm hm dL_law_639
                        · replace hm := hm.2 q_9
                          by_cases q_10 : (x33 &&& 31) = 10
                          · replace hm := hm.1 q_10
                            refine xr_tableIn (tgt := 640) C dL_law_33 (by rw [q_10]; decide) (by rw [q_10]; decide) (by rw [q_10] <;> rfl) (by decide) ?_
                            refine xr_aload_n (r := (some a1)) C dL_law_640 1 rfl ?_
                            refine xr_aload_n (r := (some b)) C dL_law_641 0 rfl ?_
                            refine xr_iload_n C dL_law_642 3 rfl ?_
                            refine xr_iconst (v := 1) C dL_law_643 rfl ?_
                            refine xr_iadd C dL_law_644 ?_
                            obtain ⟨x281, b280, v280, hm⟩ := hm
                            refine xr_sld C hnm b280 v280 dL_law_645 ?_
                            obtain ⟨⟨fs283, e283⟩, hm⟩ := hm
                            refine xr_cVi (n := 1) (As := [.int x281]) (st := []) C (c_X11_tick a1 x281 h 0 0 hm) e283 rfl wl_97 wl_99 wl_100 wl_9 wl_98 (by decide +kernel) rfl (by rw [hR.1, hR.2]; decide) (Nat.zero_add _).symm (Nat.zero_add _).symm rfl (Nat.le_of_ble_eq_true rfl) dL_law_646 (fun x284 h285 hn => ?_)
                            clear hm
                            have hm := hn
                            clear hn
                            refine xr_aload_n (r := (some a2)) C dL_law_649 2 rfl ?_
                            refine xr_aload_n (r := (some b)) C dL_law_650 0 rfl ?_
                            refine xr_iload_n C dL_law_651 3 rfl ?_
                            refine xr_iconst (v := 1) C dL_law_652 rfl ?_
                            refine xr_iadd C dL_law_653 ?_
                            obtain ⟨x287, b286, v286, hm⟩ := hm
                            refine xr_sld C hnm b286 v286 dL_law_654 ?_
                            obtain ⟨⟨fs289, e289⟩, hm⟩ := hm
                            refine xr_cVi (n := 1) (As := [.int x287]) (st := [.int x284]) C (c_X12_tick a2 x287 h285 0 0 hm) e289 rfl wl_93 wl_95 wl_96 wl_3 wl_94 (by decide +kernel) rfl (by rw [hR.1, hR.2]; decide) (Nat.zero_add _).symm (Nat.zero_add _).symm rfl (Nat.le_of_ble_eq_true rfl) dL_law_655 (fun x290 h291 hn => ?_)
                            clear hm
                            have hm := hn
                            clear hn
                            refine xr_icmp_eq (tgt := 902) C dL_law_658 (by decide) (fun q292 => ?_) (fun q292 => ?_)
                            · replace hm := hm.1 q292
                              exact k_L_law_L902 C hr hlk hnm hR ih a1 a2 xv3 _ _ _ hm
                            · replace hm := hm.2 q292
                              refine xr_iconst (v := 0) C dL_law_661 rfl ?_
                              exact xr_lawret C hr hlk hnm hm dL_law_662
                          · replace hm := hm.2 q_10
                            by_cases q_11 : (x33 &&& 31) = 11
                            · replace hm := hm.1 q_11
                              refine xr_tableIn (tgt := 663) C dL_law_33 (by rw [q_11]; decide) (by rw [q_11]; decide) (by rw [q_11] <;> rfl) (by decide) ?_
                              refine xr_aload_n (r := (some a1)) C dL_law_663 1 rfl ?_
                              refine xr_aload_n (r := (some b)) C dL_law_664 0 rfl ?_
                              refine xr_iload_n C dL_law_665 3 rfl ?_
                              refine xr_iconst (v := 1) C dL_law_666 rfl ?_
                              refine xr_iadd C dL_law_667 ?_
                              obtain ⟨x294, b293, v293, hm⟩ := hm
                              refine xr_sld C hnm b293 v293 dL_law_668 ?_
                              obtain ⟨⟨fs296, e296⟩, hm⟩ := hm
                              obtain ⟨mc297, ms298, kc299, ks300, kk296, kl296, hm⟩ := hm
                              refine xr_cVi (n := 1) (As := [.int x294]) (st := []) C (c_X11_clear a1 x294 h mc297 ms298 hm) e296 rfl wl_105 wl_107 wl_108 wl_9 wl_106 (by decide +kernel) rfl (by rw [hR.1, hR.2]; decide) kk296 kl296 rfl (Nat.le_of_ble_eq_true rfl) dL_law_669 (fun x301 h302 hn => ?_)
                              clear hm
                              have hm := hn
                              clear hn
                              refine xr_aload_n (r := (some a2)) C dL_law_672 2 rfl ?_
                              refine xr_aload_n (r := (some b)) C dL_law_673 0 rfl ?_
                              refine xr_iload_n C dL_law_674 3 rfl ?_
                              refine xr_iconst (v := 1) C dL_law_675 rfl ?_
                              refine xr_iadd C dL_law_676 ?_
                              obtain ⟨x304, b303, v303, hm⟩ := hm
                              refine xr_sld C hnm b303 v303 dL_law_677 ?_
                              obtain ⟨⟨fs306, e306⟩, hm⟩ := hm
                              refine xr_cVi (n := 1) (As := [.int x304]) (st := [.int x301]) C (c_X12_clear a2 x304 h302 0 0 hm) e306 rfl wl_101 wl_103 wl_104 wl_3 wl_102 (by decide +kernel) rfl (by rw [hR.1, hR.2]; decide) (Nat.zero_add _).symm (Nat.zero_add _).symm rfl (Nat.le_of_ble_eq_true rfl) dL_law_678 (fun x307 h308 hn => ?_)
                              clear hm
                              have hm := hn
                              clear hn
                              refine xr_icmp_eq (tgt := 902) C dL_law_681 (by decide) (fun q309 => ?_) (fun q309 => ?_)
                              · replace hm := hm.1 q309
                                exact k_L_law_L902 C hr hlk hnm hR ih a1 a2 xv3 _ _ _ hm
                              · replace hm := hm.2 q309
                                refine xr_iconst (v := 0) C dL_law_684 rfl ?_
                                exact xr_lawret C hr hlk hnm hm dL_law_685
                            · replace hm := hm.2 q_11
                              by_cases q_12 : (x33 &&& 31) = 12
                              · replace hm := hm.1 q_12
                                refine xr_tableIn (tgt := 686) C dL_law_33 (by rw [q_12]; decide) (by rw [q_12]; decide) (by rw [q_12] <;> rfl) (by decide) ?_
                                refine xr_aload_n (r := (some a1)) C dL_law_686 1 rfl ?_
                                refine xr_aload_n (r := (some b)) C dL_law_687 0 rfl ?_
                                refine xr_iload_n C dL_law_688 3 rfl ?_
                                refine xr_iconst (v := 1) C dL_law_689 rfl ?_
                                refine xr_iadd C dL_law_690 ?_
                                obtain ⟨x311, b310, v310, hm⟩ := hm
                                refine xr_sld C hnm b310 v310 dL_law_691 ?_
                                obtain ⟨⟨fs313, e313⟩, hm⟩ := hm
                                refine xr_cVi (n := 1) (As := [.int x311]) (st := []) C (c_X11_count a1 x311 h 0 0 hm) e313 rfl wl_113 wl_115 wl_116 wl_9 wl_114 (by decide +kernel) rfl (by rw [hR.1, hR.2]; decide) (Nat.zero_add _).symm (Nat.zero_add _).symm rfl (Nat.le_of_ble_eq_true rfl) dL_law_692 (fun x314 h315 hn => ?_)
                                clear hm
                                have hm := hn
                                clear hn
                                refine xr_aload_n (r := (some a2)) C dL_law_695 2 rfl ?_
                                refine xr_aload_n (r := (some b)) C dL_law_696 0 rfl ?_
                                refine xr_iload_n C dL_law_697 3 rfl ?_
                                refine xr_iconst (v := 1) C dL_law_698 rfl ?_
                                refine xr_iadd C dL_law_699 ?_
                                obtain ⟨x317, b316, v316, hm⟩ := hm
                                refine xr_sld C hnm b316 v316 dL_law_700 ?_
                                obtain ⟨⟨fs319, e319⟩, hm⟩ := hm
                                refine xr_cVi (n := 1) (As := [.int x317]) (st := [.int x314]) C (c_X12_count a2 x317 h315 0 0 hm) e319 rfl wl_109 wl_111 wl_112 wl_3 wl_110 (by decide +kernel) rfl (by rw [hR.1, hR.2]; decide) (Nat.zero_add _).symm (Nat.zero_add _).symm rfl (Nat.le_of_ble_eq_true rfl) dL_law_701 (fun x320 h321 hn => ?_)
                                clear hm
                                have hm := hn
                                clear hn
                                refine xr_icmp_eq (tgt := 902) C dL_law_704 (by decide) (fun q322 => ?_) (fun q322 => ?_)
                                · replace hm := hm.1 q322
                                  exact k_L_law_L902 C hr hlk hnm hR ih a1 a2 xv3 _ _ _ hm
                                · replace hm := hm.2 q322
                                  refine xr_iconst (v := 0) C dL_law_707 rfl ?_
                                  exact xr_lawret C hr hlk hnm hm dL_law_708
                              · replace hm := hm.2 q_12
                                by_cases q_13 : (x33 &&& 31) = 13
                                · replace hm := hm.1 q_13
                                  refine xr_tableIn (tgt := 709) C dL_law_33 (by rw [q_13]; decide) (by rw [q_13]; decide) (by rw [q_13] <;> rfl) (by decide) ?_
                                  refine xr_aload_n (r := (some a1)) C dL_law_709 1 rfl ?_
                                  refine xr_aload_n (r := (some b)) C dL_law_710 0 rfl ?_
                                  refine xr_iload_n C dL_law_711 3 rfl ?_
                                  refine xr_iconst (v := 1) C dL_law_712 rfl ?_
                                  refine xr_iadd C dL_law_713 ?_
                                  obtain ⟨x324, b323, v323, hm⟩ := hm
                                  refine xr_sld C hnm b323 v323 dL_law_714 ?_
                                  obtain ⟨⟨fs326, e326⟩, hm⟩ := hm
                                  refine xr_cVi (n := 1) (As := [.int x324]) (st := []) C (c_X11_outcome a1 x324 h 0 0 hm) e326 rfl wl_121 wl_123 wl_124 wl_9 wl_122 (by decide +kernel) rfl (by rw [hR.1, hR.2]; decide) (Nat.zero_add _).symm (Nat.zero_add _).symm rfl (Nat.le_of_ble_eq_true rfl) dL_law_715 (fun x327 h328 hn => ?_)
                                  clear hm
                                  have hm := hn
                                  clear hn
                                  refine xr_aload_n (r := (some a2)) C dL_law_718 2 rfl ?_
                                  refine xr_aload_n (r := (some b)) C dL_law_719 0 rfl ?_
                                  refine xr_iload_n C dL_law_720 3 rfl ?_
                                  refine xr_iconst (v := 1) C dL_law_721 rfl ?_
                                  refine xr_iadd C dL_law_722 ?_
                                  obtain ⟨x330, b329, v329, hm⟩ := hm
                                  refine xr_sld C hnm b329 v329 dL_law_723 ?_
                                  obtain ⟨⟨fs332, e332⟩, hm⟩ := hm
                                  refine xr_cVi (n := 1) (As := [.int x330]) (st := [.int x327]) C (c_X12_outcome a2 x330 h328 0 0 hm) e332 rfl wl_117 wl_119 wl_120 wl_3 wl_118 (by decide +kernel) rfl (by rw [hR.1, hR.2]; decide) (Nat.zero_add _).symm (Nat.zero_add _).symm rfl (Nat.le_of_ble_eq_true rfl) dL_law_724 (fun x333 h334 hn => ?_)
                                  clear hm
                                  have hm := hn
                                  clear hn
                                  refine xr_icmp_eq (tgt := 902) C dL_law_727 (by decide) (fun q335 => ?_) (fun q335 => ?_)
                                  · replace hm := hm.1 q335
                                    exact k_L_law_L902 C hr hlk hnm hR ih a1 a2 xv3 _ _ _ hm
                                  · replace hm := hm.2 q335
                                    refine xr_iconst (v := 0) C dL_law_730 rfl ?_
                                    exact xr_lawret C hr hlk hnm hm dL_law_731
                                · replace hm := hm.2 q_13
                                  by_cases q_14 : (x33 &&& 31) = 14
                                  · replace hm := hm.1 q_14
                                    refine xr_tableIn (tgt := 732) C dL_law_33 (by rw [q_14]; decide) (by rw [q_14]; decide) (by rw [q_14] <;> rfl) (by decide) ?_
                                    refine xr_aload_n (r := (some a1)) C dL_law_732 1 rfl ?_
                                    refine xr_aload_n (r := (some b)) C dL_law_733 0 rfl ?_
                                    refine xr_iload_n C dL_law_734 3 rfl ?_
                                    refine xr_iconst (v := 1) C dL_law_735 rfl ?_
                                    refine xr_iadd C dL_law_736 ?_
                                    obtain ⟨x337, b336, v336, hm⟩ := hm
                                    refine xr_sld C hnm b336 v336 dL_law_737 ?_
                                    refine xr_aload_n (r := (some b)) C dL_law_738 0 rfl ?_
                                    refine xr_iload_n C dL_law_739 3 rfl ?_
                                    refine xr_iconst (v := 2) C dL_law_740 rfl ?_
                                    refine xr_iadd C dL_law_741 ?_
                                    obtain ⟨x339, b338, v338, hm⟩ := hm
                                    refine xr_sld C hnm b338 v338 dL_law_742 ?_
                                    obtain ⟨⟨fs341, e341⟩, hm⟩ := hm
                                    refine xr_cVi (n := 2) (As := [.int x337, .int x339]) (st := []) C (c_X11_told a1 x337 x339 h 0 0 hm) e341 rfl wl_129 wl_131 wl_132 wl_9 wl_130 (by decide +kernel) rfl (by rw [hR.1, hR.2]; decide) (Nat.zero_add _).symm (Nat.zero_add _).symm rfl (Nat.le_of_ble_eq_true rfl) dL_law_743 (fun x342 h343 hn => ?_)
                                    clear hm
                                    have hm := hn
                                    clear hn
                                    refine xr_aload_n (r := (some a2)) C dL_law_746 2 rfl ?_
                                    refine xr_aload_n (r := (some b)) C dL_law_747 0 rfl ?_
                                    refine xr_iload_n C dL_law_748 3 rfl ?_
                                    refine xr_iconst (v := 1) C dL_law_749 rfl ?_
                                    refine xr_iadd C dL_law_750 ?_
                                    obtain ⟨x345, b344, v344, hm⟩ := hm
                                    refine xr_sld C hnm b344 v344 dL_law_751 ?_
                                    refine xr_aload_n (r := (some b)) C dL_law_752 0 rfl ?_
                                    refine xr_iload_n C dL_law_753 3 rfl ?_
                                    refine xr_iconst (v := 2) C dL_law_754 rfl ?_
                                    refine xr_iadd C dL_law_755 ?_
                                    obtain ⟨x347, b346, v346, hm⟩ := hm
                                    refine xr_sld C hnm b346 v346 dL_law_756 ?_
                                    obtain ⟨⟨fs349, e349⟩, hm⟩ := hm
                                    refine xr_cVi (n := 2) (As := [.int x345, .int x347]) (st := [.int x342]) C (c_X12_told a2 x345 x347 h343 0 0 hm) e349 rfl wl_125 wl_127 wl_128 wl_3 wl_126 (by decide +kernel) rfl (by rw [hR.1, hR.2]; decide) (Nat.zero_add _).symm (Nat.zero_add _).symm rfl (Nat.le_of_ble_eq_true rfl) dL_law_757 (fun x350 h351 hn => ?_)
                                    clear hm
                                    have hm := hn
                                    clear hn
                                    refine xr_icmp_eq (tgt := 902) C dL_law_760 (by decide) (fun q352 => ?_) (fun q352 => ?_)
                                    · replace hm := hm.1 q352
                                      exact k_L_law_L902 C hr hlk hnm hR ih a1 a2 xv3 _ _ _ hm
                                    · replace hm := hm.2 q352
                                      refine xr_iconst (v := 0) C dL_law_763 rfl ?_
                                      exact xr_lawret C hr hlk hnm hm dL_law_764
                                  · replace hm := hm.2 q_14
                                    by_cases q_15 : (x33 &&& 31) = 15
                                    · replace hm := hm.1 q_15
                                      refine xr_tableIn (tgt := 765) C dL_law_33 (by rw [q_15]; decide) (by rw [q_15]; decide) (by rw [q_15] <;> rfl) (by decide) ?_
                                      refine xr_aload_n (r := (some a1)) C dL_law_765 1 rfl ?_
                                      refine xr_aload_n (r := (some b)) C dL_law_766 0 rfl ?_
                                      refine xr_iload_n C dL_law_767 3 rfl ?_
                                      refine xr_iconst (v := 1) C dL_law_768 rfl ?_
                                      refine xr_iadd C dL_law_769 ?_
                                      obtain ⟨x354, b353, v353, hm⟩ := hm
                                      refine xr_sld C hnm b353 v353 dL_law_770 ?_
                                      obtain ⟨⟨fs356, e356⟩, hm⟩ := hm
                                      refine xr_cVl (n := 1) (As := [.int x354]) (st := []) C (c_X11_account a1 x354 h 0 0 hm) e356 rfl wl_137 wl_139 wl_140 wl_9 wl_138 (by decide +kernel) rfl (by rw [hR.1, hR.2]; decide) (Nat.zero_add _).symm (Nat.zero_add _).symm rfl (Nat.le_of_ble_eq_true rfl) dL_law_771 (fun y357 h358 hn => ?_)
                                      clear hm
                                      have hm := hn
                                      clear hn
                                      refine xr_aload_n (r := (some a2)) C dL_law_774 2 rfl ?_
                                      refine xr_aload_n (r := (some b)) C dL_law_775 0 rfl ?_
                                      refine xr_iload_n C dL_law_776 3 rfl ?_
                                      refine xr_iconst (v := 1) C dL_law_777 rfl ?_
                                      refine xr_iadd C dL_law_778 ?_
                                      obtain ⟨x360, b359, v359, hm⟩ := hm
                                      refine xr_sld C hnm b359 v359 dL_law_779 ?_
                                      obtain ⟨⟨fs362, e362⟩, hm⟩ := hm
                                      refine xr_cVl (n := 1) (As := [.int x360]) (st := [.long y357]) C (c_X12_account a2 x360 h358 0 0 hm) e362 rfl wl_133 wl_135 wl_136 wl_3 wl_134 (by decide +kernel) rfl (by rw [hR.1, hR.2]; decide) (Nat.zero_add _).symm (Nat.zero_add _).symm rfl (Nat.le_of_ble_eq_true rfl) dL_law_780 (fun y363 h364 hn => ?_)
                                      clear hm
                                      have hm := hn
                                      clear hn
                                      refine xr_lcmp C dL_law_783 ?_
                                      refine xr_if_eq (tgt := 902) C dL_law_784 (by decide) (fun q365 => ?_) (fun q365 => ?_)
                                      · replace hm := hm.1 q365
                                        exact k_L_law_L902 C hr hlk hnm hR ih a1 a2 xv3 _ _ _ hm
                                      · replace hm := hm.2 q365
                                        refine xr_iconst (v := 0) C dL_law_787 rfl ?_
                                        exact xr_lawret C hr hlk hnm hm dL_law_788
                                    · replace hm := hm.2 q_15
                                      by_cases q_16 : (x33 &&& 31) = 16
                                      · replace hm := hm.1 q_16
                                        refine xr_tableIn (tgt := 789) C dL_law_33 (by rw [q_16]; decide) (by rw [q_16]; decide) (by rw [q_16] <;> rfl) (by decide) ?_
                                        refine xr_aload_n (r := (some a1)) C dL_law_789 1 rfl ?_
                                        refine xr_aload_n (r := (some b)) C dL_law_790 0 rfl ?_
                                        refine xr_iload_n C dL_law_791 3 rfl ?_
                                        refine xr_iconst (v := 1) C dL_law_792 rfl ?_
                                        refine xr_iadd C dL_law_793 ?_
                                        obtain ⟨x367, b366, v366, hm⟩ := hm
                                        refine xr_sld C hnm b366 v366 dL_law_794 ?_
                                        refine xr_aload_n (r := (some b)) C dL_law_795 0 rfl ?_
                                        refine xr_iload_n C dL_law_796 3 rfl ?_
                                        refine xr_iconst (v := 2) C dL_law_797 rfl ?_
                                        refine xr_iadd C dL_law_798 ?_
                                        obtain ⟨x369, b368, v368, hm⟩ := hm
                                        refine xr_sld C hnm b368 v368 dL_law_799 ?_
                                        obtain ⟨⟨fs371, e371⟩, hm⟩ := hm
                                        refine xr_cVl (n := 2) (As := [.int x367, .int x369]) (st := []) C (c_X11_debit a1 x367 x369 h 0 0 hm) e371 rfl wl_145 wl_147 wl_148 wl_9 wl_146 (by decide +kernel) rfl (by rw [hR.1, hR.2]; decide) (Nat.zero_add _).symm (Nat.zero_add _).symm rfl (Nat.le_of_ble_eq_true rfl) dL_law_800 (fun y372 h373 hn => ?_)
                                        clear hm
                                        have hm := hn
                                        clear hn
                                        refine xr_aload_n (r := (some a2)) C dL_law_803 2 rfl ?_
                                        refine xr_aload_n (r := (some b)) C dL_law_804 0 rfl ?_
                                        refine xr_iload_n C dL_law_805 3 rfl ?_
                                        refine xr_iconst (v := 1) C dL_law_806 rfl ?_
                                        refine xr_iadd C dL_law_807 ?_
                                        obtain ⟨x375, b374, v374, hm⟩ := hm
                                        refine xr_sld C hnm b374 v374 dL_law_808 ?_
                                        refine xr_aload_n (r := (some b)) C dL_law_809 0 rfl ?_
                                        refine xr_iload_n C dL_law_810 3 rfl ?_
                                        refine xr_iconst (v := 2) C dL_law_811 rfl ?_
                                        refine xr_iadd C dL_law_812 ?_
                                        obtain ⟨x377, b376, v376, hm⟩ := hm
                                        refine xr_sld C hnm b376 v376 dL_law_813 ?_
                                        obtain ⟨⟨fs379, e379⟩, hm⟩ := hm
                                        refine xr_cVl (n := 2) (As := [.int x375, .int x377]) (st := [.long y372]) C (c_X12_debit_ a2 x375 x377 h373 0 0 hm) e379 rfl wl_141 wl_143 wl_144 wl_3 wl_142 (by decide +kernel) rfl (by rw [hR.1, hR.2]; decide) (Nat.zero_add _).symm (Nat.zero_add _).symm rfl (Nat.le_of_ble_eq_true rfl) dL_law_814 (fun y380 h381 hn => ?_)
                                        clear hm
                                        have hm := hn
                                        clear hn
                                        refine xr_lcmp C dL_law_817 ?_
                                        refine xr_if_eq (tgt := 902) C dL_law_818 (by decide) (fun q382 => ?_) (fun q382 => ?_)
                                        · replace hm := hm.1 q382
                                          exact k_L_law_L902 C hr hlk hnm hR ih a1 a2 xv3 _ _ _ hm
                                        · replace hm := hm.2 q382
                                          refine xr_iconst (v := 0) C dL_law_821 rfl ?_
                                          exact xr_lawret C hr hlk hnm hm dL_law_822
                                      · replace hm := hm.2 q_16
                                        by_cases q_17 : (x33 &&& 31) = 17
                                        · replace hm := hm.1 q_17
                                          refine xr_tableIn (tgt := 823) C dL_law_33 (by rw [q_17]; decide) (by rw [q_17]; decide) (by rw [q_17] <;> rfl) (by decide) ?_
                                          refine xr_aload_n (r := (some a1)) C dL_law_823 1 rfl ?_
                                          refine xr_aload_n (r := (some b)) C dL_law_824 0 rfl ?_
                                          refine xr_iload_n C dL_law_825 3 rfl ?_
                                          refine xr_iconst (v := 1) C dL_law_826 rfl ?_
                                          refine xr_iadd C dL_law_827 ?_
                                          obtain ⟨x384, b383, v383, hm⟩ := hm
                                          refine xr_sld C hnm b383 v383 dL_law_828 ?_
                                          refine xr_aload_n (r := (some b)) C dL_law_829 0 rfl ?_
                                          refine xr_iload_n C dL_law_830 3 rfl ?_
                                          refine xr_iconst (v := 2) C dL_law_831 rfl ?_
                                          refine xr_iadd C dL_law_832 ?_
                                          obtain ⟨x386, b385, v385, hm⟩ := hm
                                          refine xr_sld C hnm b385 v385 dL_law_833 ?_
                                          obtain ⟨⟨fs388, e388⟩, hm⟩ := hm
                                          refine xr_cVi (n := 2) (As := [.int x384, .int x386]) (st := []) C (c_X11_message a1 x384 x386 h 0 0 hm) e388 rfl wl_153 wl_155 wl_156 wl_9 wl_154 (by decide +kernel) rfl (by rw [hR.1, hR.2]; decide) (Nat.zero_add _).symm (Nat.zero_add _).symm rfl (Nat.le_of_ble_eq_true rfl) dL_law_834 (fun x389 h390 hn => ?_)
                                          clear hm
                                          have hm := hn
                                          clear hn
                                          refine xr_aload_n (r := (some a2)) C dL_law_837 2 rfl ?_
                                          refine xr_aload_n (r := (some b)) C dL_law_838 0 rfl ?_
                                          refine xr_iload_n C dL_law_839 3 rfl ?_
                                          refine xr_iconst (v := 1) C dL_law_840 rfl ?_
                                          refine xr_iadd C dL_law_841 ?_
                                          obtain ⟨x392, b391, v391, hm⟩ := hm
                                          refine xr_sld C hnm b391 v391 dL_law_842 ?_
                                          refine xr_aload_n (r := (some b)) C dL_law_843 0 rfl ?_
                                          refine xr_iload_n C dL_law_844 3 rfl ?_
                                          refine xr_iconst (v := 2) C dL_law_845 rfl ?_
                                          refine xr_iadd C dL_law_846 ?_
                                          obtain ⟨x394, b393, v393, hm⟩ := hm
                                          refine xr_sld C hnm b393 v393 dL_law_847 ?_
                                          obtain ⟨⟨fs396, e396⟩, hm⟩ := hm
                                          refine xr_cVi (n := 2) (As := [.int x392, .int x394]) (st := [.int x389]) C (c_X12_message a2 x392 x394 h390 0 0 hm) e396 rfl wl_149 wl_151 wl_152 wl_3 wl_150 (by decide +kernel) rfl (by rw [hR.1, hR.2]; decide) (Nat.zero_add _).symm (Nat.zero_add _).symm rfl (Nat.le_of_ble_eq_true rfl) dL_law_848 (fun x397 h398 hn => ?_)
                                          clear hm
                                          have hm := hn
                                          clear hn
                                          refine xr_icmp_eq (tgt := 902) C dL_law_851 (by decide) (fun q399 => ?_) (fun q399 => ?_)
                                          · replace hm := hm.1 q399
                                            exact k_L_law_L902 C hr hlk hnm hR ih a1 a2 xv3 _ _ _ hm
                                          · replace hm := hm.2 q399
                                            refine xr_iconst (v := 0) C dL_law_854 rfl ?_
                                            exact xr_lawret C hr hlk hnm hm dL_law_855
                                        · replace hm := hm.2 q_17
                                          by_cases q_18 : (x33 &&& 31) = 18
                                          · replace hm := hm.1 q_18
                                            refine xr_tableIn (tgt := 856) C dL_law_33 (by rw [q_18]; decide) (by rw [q_18]; decide) (by rw [q_18] <;> rfl) (by decide) ?_
                                            refine xr_aload_n (r := (some a1)) C dL_law_856 1 rfl ?_
                                            refine xr_aload_n (r := (some b)) C dL_law_857 0 rfl ?_
                                            refine xr_iload_n C dL_law_858 3 rfl ?_
                                            refine xr_iconst (v := 1) C dL_law_859 rfl ?_
                                            refine xr_iadd C dL_law_860 ?_
                                            obtain ⟨x401, b400, v400, hm⟩ := hm
                                            refine xr_sld C hnm b400 v400 dL_law_861 ?_
                                            refine xr_aload_n (r := (some b)) C dL_law_862 0 rfl ?_
                                            refine xr_iload_n C dL_law_863 3 rfl ?_
                                            refine xr_iconst (v := 2) C dL_law_864 rfl ?_
                                            refine xr_iadd C dL_law_865 ?_
                                            obtain ⟨x403, b402, v402, hm⟩ := hm
                                            refine xr_sld C hnm b402 v402 dL_law_866 ?_
                                            obtain ⟨⟨fs405, e405⟩, hm⟩ := hm
                                            refine xr_cVi (n := 2) (As := [.int x401, .int x403]) (st := []) C (c_X11_at a1 x401 x403 h 0 0 hm) e405 rfl wl_161 wl_163 wl_164 wl_9 wl_162 (by decide +kernel) rfl (by rw [hR.1, hR.2]; decide) (Nat.zero_add _).symm (Nat.zero_add _).symm rfl (Nat.le_of_ble_eq_true rfl) dL_law_867 (fun x406 h407 hn => ?_)
                                            clear hm
                                            have hm := hn
                                            clear hn
                                            refine xr_aload_n (r := (some a2)) C dL_law_870 2 rfl ?_
                                            refine xr_aload_n (r := (some b)) C dL_law_871 0 rfl ?_
                                            refine xr_iload_n C dL_law_872 3 rfl ?_
                                            refine xr_iconst (v := 1) C dL_law_873 rfl ?_
                                            refine xr_iadd C dL_law_874 ?_
                                            obtain ⟨x409, b408, v408, hm⟩ := hm
                                            refine xr_sld C hnm b408 v408 dL_law_875 ?_
                                            refine xr_aload_n (r := (some b)) C dL_law_876 0 rfl ?_
                                            refine xr_iload_n C dL_law_877 3 rfl ?_
                                            refine xr_iconst (v := 2) C dL_law_878 rfl ?_
                                            refine xr_iadd C dL_law_879 ?_
                                            obtain ⟨x411, b410, v410, hm⟩ := hm
                                            refine xr_sld C hnm b410 v410 dL_law_880 ?_
                                            obtain ⟨⟨fs413, e413⟩, hm⟩ := hm
                                            refine xr_cVi (n := 2) (As := [.int x409, .int x411]) (st := [.int x406]) C (c_X12_at a2 x409 x411 h407 0 0 hm) e413 rfl wl_157 wl_159 wl_160 wl_3 wl_158 (by decide +kernel) rfl (by rw [hR.1, hR.2]; decide) (Nat.zero_add _).symm (Nat.zero_add _).symm rfl (Nat.le_of_ble_eq_true rfl) dL_law_881 (fun x414 h415 hn => ?_)
                                            clear hm
                                            have hm := hn
                                            clear hn
                                            refine xr_icmp_eq (tgt := 902) C dL_law_884 (by decide) (fun q416 => ?_) (fun q416 => ?_)
                                            · replace hm := hm.1 q416
                                              exact k_L_law_L902 C hr hlk hnm hR ih a1 a2 xv3 _ _ _ hm
                                            · replace hm := hm.2 q416
                                              refine xr_iconst (v := 0) C dL_law_887 rfl ?_
                                              exact xr_lawret C hr hlk hnm hm dL_law_888
                                          · replace hm := hm.2 q_18
                                            by_cases q_19 : (x33 &&& 31) = 19
                                            · replace hm := hm.1 q_19
                                              refine xr_tableIn (tgt := 889) C dL_law_33 (by rw [q_19]; decide) (by rw [q_19]; decide) (by rw [q_19] <;> rfl) (by decide) ?_
                                              refine xr_aload_n (r := (some a1)) C dL_law_889 1 rfl ?_
                                              obtain ⟨⟨fs418, e418⟩, hm⟩ := hm
                                              refine xr_cVi (n := 0) (As := []) (st := []) C (c_X11_matched a1 h 0 0 hm) e418 rfl wl_169 wl_171 wl_172 wl_9 wl_170 (by decide +kernel) rfl (by rw [hR.1, hR.2]; decide) (Nat.zero_add _).symm (Nat.zero_add _).symm rfl (Nat.le_of_ble_eq_true rfl) dL_law_890 (fun x419 h420 hn => ?_)
                                              clear hm
                                              have hm := hn
                                              clear hn
                                              refine xr_aload_n (r := (some a2)) C dL_law_893 2 rfl ?_
                                              obtain ⟨⟨fs422, e422⟩, hm⟩ := hm
                                              refine xr_cVi (n := 0) (As := []) (st := [.int x419]) C (c_X12_matched a2 h420 0 0 hm) e422 rfl wl_165 wl_167 wl_168 wl_3 wl_166 (by decide +kernel) rfl (by rw [hR.1, hR.2]; decide) (Nat.zero_add _).symm (Nat.zero_add _).symm rfl (Nat.le_of_ble_eq_true rfl) dL_law_894 (fun x423 h424 hn => ?_)
                                              clear hm
                                              have hm := hn
                                              clear hn
                                              refine xr_icmp_eq (tgt := 902) C dL_law_897 (by decide) (fun q425 => ?_) (fun q425 => ?_)
                                              · replace hm := hm.1 q425
                                                exact k_L_law_L902 C hr hlk hnm hR ih a1 a2 xv3 _ _ _ hm
                                              · replace hm := hm.2 q425
                                                refine xr_iconst (v := 0) C dL_law_900 rfl ?_
                                                exact xr_lawret C hr hlk hnm hm dL_law_901
                                            · replace hm := hm.2 q_19
                                              have z_0 := lv_neT (a := 0) q_0 rfl
                                              have z_1 := lv_neT (a := 1) q_1 rfl
                                              have z_2 := lv_neT (a := 2) q_2 rfl
                                              have z_3 := lv_neT (a := 3) q_3 rfl
                                              have z_4 := lv_neT (a := 4) q_4 rfl
                                              have z_5 := lv_neT (a := 5) q_5 rfl
                                              have z_6 := lv_neT (a := 6) q_6 rfl
                                              have z_7 := lv_neT (a := 7) q_7 rfl
                                              have z_8 := lv_neT (a := 8) q_8 rfl
                                              have z_9 := lv_neT (a := 9) q_9 rfl
                                              have z_10 := lv_neT (a := 10) q_10 rfl
                                              have z_11 := lv_neT (a := 11) q_11 rfl
                                              have z_12 := lv_neT (a := 12) q_12 rfl
                                              have z_13 := lv_neT (a := 13) q_13 rfl
                                              have z_14 := lv_neT (a := 14) q_14 rfl
                                              have z_15 := lv_neT (a := 15) q_15 rfl
                                              have z_16 := lv_neT (a := 16) q_16 rfl
                                              have z_17 := lv_neT (a := 17) q_17 rfl
                                              have z_18 := lv_neT (a := 18) q_18 rfl
                                              have z_19 := lv_neT (a := 19) q_19 rfl
                                              refine xr_tableOut (tgt := 902) C dL_law_33 (by omega) (by decide) ?_
                                              exact k_L_law_L902 C hr hlk hnm hR ih a1 a2 xv3 _ _ _ hm
set_option maxRecDepth 100000 in
set_option maxHeartbeats 16000000 in
theorem k_L_law {p : Program} {l : Launch} {e : Env} {s : State} {m : MethodId} {below : List Frame} {meth : Method} {c : Code} {D : va_G} {E : Ev} {A : Nat → Prop} {b SL : Nat} {SX : Nat → Int32} (C : XC p room_1 s m #[Value.ref b] c D E A 4 RL cL_law 600000 7302250) (hr : meth.sig.returnType = ret) (hlk : meth.locks = false) (hnm : xl_At A s b SL SX) (hR : room_1.frames = 14 ∧ room_1.locals = 542) (h : Hp) (kc ks : Nat) (hm : m_L_law E SL SX h kc ks) : XW p l e room_1 s m #[Value.ref b] below meth c (lw_Z below #[Value.ref b] s) D A 600000 7302250 4 h kc ks [(0, .ref b)] 0 [] := by
  obtain ⟨kc5, ks6, kk2, kl2, hm⟩ := hm
  refine xr_new (ci := 12) (fs := [.null, .null, .null, .int 0]) C tyX11 tyX11_ok rfl inX11 wl_10 wl_11 wl_9 dvX11 kk2 kl2 dL_law_0 (fun a3 h4 na2 eh2 => ?_)
  replace hm := hm a3 h4 na2 eh2
  refine xr_dup C dL_law_3 rfl ?_
  obtain ⟨mc9, ms10, kc11, ks12, kk8, kl8, hm⟩ := hm
  refine xr_cIv (n := 0) (As := []) (st := [.ref a3]) C (c_X11_init a3 h4 mc9 ms10 hm) wl_6 wl_8 wl_9 wl_7 rfl (by decide +kernel) rfl (by rw [hR.1, hR.2]; decide) kk8 kl8 rfl (Nat.le_of_ble_eq_true rfl) dL_law_4 (fun h14 hn => ?_)
  clear hm
  have hm := hn
  clear hn
  refine xr_astore_n (r := (some a3)) (lv' := [(1, .ref a3), (0, .ref b)]) C dL_law_7 (by decide) rfl ?_
  obtain ⟨kc19, ks20, kk16, kl16, hm⟩ := hm
  refine xr_new (ci := 13) (fs := [.int 0, .null, .null, .null, .null, .int 0, .int 0, .null, .null, .null, .null, .null, .null, .int 0, .int 0, .null, .int 0, .null, .null, .null, .int 0, .int 0, .null, .null, .null, .null, .null, .null, .null, .null, .null, .null, .null, .null, .null, .null, .int 0, .null, .null, .null, .null, .null, .null, .null, .null, .null, .null, .null, .null, .null, .null, .null, .long 0, .int 0, .null, .null, .null, .int 0, .null, .int 0, .null, .int 0, .null]) C tyX12 tyX12_ok rfl inX12 wl_4 wl_5 wl_3 dvX12 kk16 kl16 dL_law_8 (fun a17 h18 na16 eh16 => ?_)
  replace hm := hm a17 h18 na16 eh16
  refine xr_dup C dL_law_11 rfl ?_
  obtain ⟨mc23, ms24, kc25, ks26, kk22, kl22, hm⟩ := hm
  refine xr_cIv (n := 0) (As := []) (st := [.ref a17]) C (c_X12_init a17 h18 mc23 ms24 hm) wl_0 wl_2 wl_3 wl_1 rfl (by decide +kernel) rfl (by rw [hR.1, hR.2]; decide) kk22 kl22 rfl (Nat.le_of_ble_eq_true rfl) dL_law_12 (fun h28 hn => ?_)
  clear hm
  have hm := hn
  clear hn
  refine xr_astore_n (r := (some a17)) (lv' := [(2, .ref a17), (1, .ref a3), (0, .ref b)]) C dL_law_15 (by decide) rfl ?_
  refine xr_iconst (v := 0) C dL_law_16 rfl ?_
  refine xr_istore_n (lv' := [(3, .int 0), (2, .ref a17), (1, .ref a3), (0, .ref b)]) C dL_law_17 (by decide) rfl ?_
  obtain ⟨n29, hm⟩ := hm
  refine xr_sub [3, 2, 1, 0] rfl ?_
  exact k_L_law_L18 C hr hlk hnm hR n29 a3 a17 0 _ _ _ hm
