section
-- ===== PART A: goes FIRST, ahead of the names: the tables' words, and 'selects' of the private methods out of them =====
/-- a private method of a class that the tables say can be made, by its rows of tables_1 -/
def lw_okq (q : MethodName × Nat) : Prop := (q.1.cls ≠ "java/lang/invoke/MethodHandle" ∧ q.1.cls ≠ "java/lang/invoke/VarHandle") ∧ Cond.instantiable q.1.cls q.2 ∈ tables_1 ∧ Cond.privateMethod q.1 ∈ tables_1 ∧ Cond.instanceMethod q.1 ∈ tables_1
theorem lw_p0 : lw_okq (⟨"java/util/ArrayList", "add", "(Ljava/lang/Object;[Ljava/lang/Object;I)V"⟩, 3) := ⟨⟨by decide +kernel, by decide +kernel⟩, List.mem_of_getElem? (i := 60) (by decide +kernel), List.mem_of_getElem? (i := 343) (by decide +kernel), List.mem_of_getElem? (i := 344) (by decide +kernel)⟩
theorem lw_p1 : lw_okq (⟨"java/util/ArrayList", "grow", "()[Ljava/lang/Object;"⟩, 3) := ⟨⟨by decide +kernel, by decide +kernel⟩, List.mem_of_getElem? (i := 60) (by decide +kernel), List.mem_of_getElem? (i := 347) (by decide +kernel), List.mem_of_getElem? (i := 348) (by decide +kernel)⟩
theorem lw_p2 : lw_okq (⟨"java/util/ArrayList", "grow", "(I)[Ljava/lang/Object;"⟩, 3) := ⟨⟨by decide +kernel, by decide +kernel⟩, List.mem_of_getElem? (i := 60) (by decide +kernel), List.mem_of_getElem? (i := 351) (by decide +kernel), List.mem_of_getElem? (i := 352) (by decide +kernel)⟩
theorem lw_p3 : lw_okq (⟨"CardPayments$Terminal", "sendToCard", "(II)V"⟩, 14) := ⟨⟨by decide +kernel, by decide +kernel⟩, List.mem_of_getElem? (i := 419) (by decide +kernel), List.mem_of_getElem? (i := 508) (by decide +kernel), List.mem_of_getElem? (i := 509) (by decide +kernel)⟩
theorem lw_p4 : lw_okq (⟨"CardPayments$Message", "writeField", "(IJ)V"⟩, 6) := ⟨⟨by decide +kernel, by decide +kernel⟩, List.mem_of_getElem? (i := 519) (by decide +kernel), List.mem_of_getElem? (i := 561) (by decide +kernel), List.mem_of_getElem? (i := 562) (by decide +kernel)⟩
theorem lw_p5 : lw_okq (⟨"CardPayments$Terminal", "waitFor", "(I)V"⟩, 14) := ⟨⟨by decide +kernel, by decide +kernel⟩, List.mem_of_getElem? (i := 419) (by decide +kernel), List.mem_of_getElem? (i := 567) (by decide +kernel), List.mem_of_getElem? (i := 568) (by decide +kernel)⟩
theorem lw_p6 : lw_okq (⟨"CardPayments$Message", "isFieldAt", "(II)Z"⟩, 6) := ⟨⟨by decide +kernel, by decide +kernel⟩, List.mem_of_getElem? (i := 519) (by decide +kernel), List.mem_of_getElem? (i := 587) (by decide +kernel), List.mem_of_getElem? (i := 588) (by decide +kernel)⟩
theorem lw_p7 : lw_okq (⟨"CardPayments$Message", "numberAt", "(II)J"⟩, 6) := ⟨⟨by decide +kernel, by decide +kernel⟩, List.mem_of_getElem? (i := 519) (by decide +kernel), List.mem_of_getElem? (i := 591) (by decide +kernel), List.mem_of_getElem? (i := 592) (by decide +kernel)⟩
theorem lw_p8 : lw_okq (⟨"CardPayments$Host", "takesRequest", "(LCardPayments$Content;)Z"⟩, 3) := ⟨⟨by decide +kernel, by decide +kernel⟩, List.mem_of_getElem? (i := 174) (by decide +kernel), List.mem_of_getElem? (i := 600) (by decide +kernel), List.mem_of_getElem? (i := 601) (by decide +kernel)⟩
theorem lw_p9 : lw_okq (⟨"CardPayments$Host", "isFromTerminal", "(LCardPayments$Content;LCardPayments$Payment;)Z"⟩, 3) := ⟨⟨by decide +kernel, by decide +kernel⟩, List.mem_of_getElem? (i := 174) (by decide +kernel), List.mem_of_getElem? (i := 613) (by decide +kernel), List.mem_of_getElem? (i := 614) (by decide +kernel)⟩
theorem lw_p10 : lw_okq (⟨"CardPayments$Seals", "key", "(II)LCardPayments$Seals;"⟩, 5) := ⟨⟨by decide +kernel, by decide +kernel⟩, List.mem_of_getElem? (i := 54) (by decide +kernel), List.mem_of_getElem? (i := 622) (by decide +kernel), List.mem_of_getElem? (i := 623) (by decide +kernel)⟩
theorem lw_p11 : lw_okq (⟨"CardPayments$Seals", "with", "(J)LCardPayments$Seals;"⟩, 5) := ⟨⟨by decide +kernel, by decide +kernel⟩, List.mem_of_getElem? (i := 54) (by decide +kernel), List.mem_of_getElem? (i := 626) (by decide +kernel), List.mem_of_getElem? (i := 627) (by decide +kernel)⟩
theorem lw_p12 : lw_okq (⟨"CardPayments$Seals", "isTheirs", "(LCardPayments$Seal;)Z"⟩, 5) := ⟨⟨by decide +kernel, by decide +kernel⟩, List.mem_of_getElem? (i := 54) (by decide +kernel), List.mem_of_getElem? (i := 637) (by decide +kernel), List.mem_of_getElem? (i := 638) (by decide +kernel)⟩
theorem lw_p13 : lw_okq (⟨"CardPayments$Host", "wordFor", "(LCardPayments$Payment;)I"⟩, 3) := ⟨⟨by decide +kernel, by decide +kernel⟩, List.mem_of_getElem? (i := 174) (by decide +kernel), List.mem_of_getElem? (i := 641) (by decide +kernel), List.mem_of_getElem? (i := 642) (by decide +kernel)⟩
theorem lw_p14 : lw_okq (⟨"CardPayments$Host", "isAnswerOfCard", "(LCardPayments$Payment;)Z"⟩, 3) := ⟨⟨by decide +kernel, by decide +kernel⟩, List.mem_of_getElem? (i := 174) (by decide +kernel), List.mem_of_getElem? (i := 645) (by decide +kernel), List.mem_of_getElem? (i := 646) (by decide +kernel)⟩
theorem lw_p15 : lw_okq (⟨"CardPayments$Host", "take", "(LCardPayments$Account;LCardPayments$Payment;)V"⟩, 3) := ⟨⟨by decide +kernel, by decide +kernel⟩, List.mem_of_getElem? (i := 174) (by decide +kernel), List.mem_of_getElem? (i := 657) (by decide +kernel), List.mem_of_getElem? (i := 658) (by decide +kernel)⟩
def lw_privs_1 : List (MethodName × Nat) := [(⟨"java/util/ArrayList", "add", "(Ljava/lang/Object;[Ljava/lang/Object;I)V"⟩, 3), (⟨"java/util/ArrayList", "grow", "()[Ljava/lang/Object;"⟩, 3), (⟨"java/util/ArrayList", "grow", "(I)[Ljava/lang/Object;"⟩, 3), (⟨"CardPayments$Terminal", "sendToCard", "(II)V"⟩, 14), (⟨"CardPayments$Message", "writeField", "(IJ)V"⟩, 6), (⟨"CardPayments$Terminal", "waitFor", "(I)V"⟩, 14), (⟨"CardPayments$Message", "isFieldAt", "(II)Z"⟩, 6), (⟨"CardPayments$Message", "numberAt", "(II)J"⟩, 6), (⟨"CardPayments$Host", "takesRequest", "(LCardPayments$Content;)Z"⟩, 3), (⟨"CardPayments$Host", "isFromTerminal", "(LCardPayments$Content;LCardPayments$Payment;)Z"⟩, 3), (⟨"CardPayments$Seals", "key", "(II)LCardPayments$Seals;"⟩, 5), (⟨"CardPayments$Seals", "with", "(J)LCardPayments$Seals;"⟩, 5), (⟨"CardPayments$Seals", "isTheirs", "(LCardPayments$Seal;)Z"⟩, 5), (⟨"CardPayments$Host", "wordFor", "(LCardPayments$Payment;)I"⟩, 3), (⟨"CardPayments$Host", "isAnswerOfCard", "(LCardPayments$Payment;)Z"⟩, 3), (⟨"CardPayments$Host", "take", "(LCardPayments$Account;LCardPayments$Payment;)V"⟩, 3)]
theorem lw_r1 : ∀ q ∈ lw_privs_1, lw_okq q := List.forall_mem_cons.mpr ⟨lw_p0, List.forall_mem_cons.mpr ⟨lw_p1, List.forall_mem_cons.mpr ⟨lw_p2, List.forall_mem_cons.mpr ⟨lw_p3, List.forall_mem_cons.mpr ⟨lw_p4, List.forall_mem_cons.mpr ⟨lw_p5, List.forall_mem_cons.mpr ⟨lw_p6, List.forall_mem_cons.mpr ⟨lw_p7, List.forall_mem_cons.mpr ⟨lw_p8, List.forall_mem_cons.mpr ⟨lw_p9, List.forall_mem_cons.mpr ⟨lw_p10, List.forall_mem_cons.mpr ⟨lw_p11, List.forall_mem_cons.mpr ⟨lw_p12, List.forall_mem_cons.mpr ⟨lw_p13, List.forall_mem_cons.mpr ⟨lw_p14, List.forall_mem_cons.mpr ⟨lw_p15, fun _ h => absurd h List.not_mem_nil⟩⟩⟩⟩⟩⟩⟩⟩⟩⟩⟩⟩⟩⟩⟩⟩
theorem lw_p16 : lw_okq (⟨"CardPayments$Host", "takesClear", "(LCardPayments$Content;)Z"⟩, 3) := ⟨⟨by decide +kernel, by decide +kernel⟩, List.mem_of_getElem? (i := 174) (by decide +kernel), List.mem_of_getElem? (i := 705) (by decide +kernel), List.mem_of_getElem? (i := 706) (by decide +kernel)⟩
theorem lw_p17 : lw_okq (⟨"CardPayments$Terminal", "takeCard", "(LCardPayments$Content;)V"⟩, 14) := ⟨⟨by decide +kernel, by decide +kernel⟩, List.mem_of_getElem? (i := 419) (by decide +kernel), List.mem_of_getElem? (i := 717) (by decide +kernel), List.mem_of_getElem? (i := 718) (by decide +kernel)⟩
theorem lw_p18 : lw_okq (⟨"CardPayments$Terminal", "end", "(I)V"⟩, 14) := ⟨⟨by decide +kernel, by decide +kernel⟩, List.mem_of_getElem? (i := 419) (by decide +kernel), List.mem_of_getElem? (i := 729) (by decide +kernel), List.mem_of_getElem? (i := 730) (by decide +kernel)⟩
theorem lw_p19 : lw_okq (⟨"CardPayments$Terminal", "ask", "(I)V"⟩, 14) := ⟨⟨by decide +kernel, by decide +kernel⟩, List.mem_of_getElem? (i := 419) (by decide +kernel), List.mem_of_getElem? (i := 733) (by decide +kernel), List.mem_of_getElem? (i := 734) (by decide +kernel)⟩
theorem lw_p20 : lw_okq (⟨"CardPayments$Terminal", "takePinned", "(LCardPayments$Content;)V"⟩, 14) := ⟨⟨by decide +kernel, by decide +kernel⟩, List.mem_of_getElem? (i := 419) (by decide +kernel), List.mem_of_getElem? (i := 738) (by decide +kernel), List.mem_of_getElem? (i := 739) (by decide +kernel)⟩
theorem lw_p21 : lw_okq (⟨"CardPayments$Terminal", "takeAnswer", "(LCardPayments$Content;)V"⟩, 14) := ⟨⟨by decide +kernel, by decide +kernel⟩, List.mem_of_getElem? (i := 419) (by decide +kernel), List.mem_of_getElem? (i := 742) (by decide +kernel), List.mem_of_getElem? (i := 743) (by decide +kernel)⟩
theorem lw_p22 : lw_okq (⟨"CardPayments$Terminal", "sendToHost", "(ILCardPayments$Payment;)Z"⟩, 14) := ⟨⟨by decide +kernel, by decide +kernel⟩, List.mem_of_getElem? (i := 419) (by decide +kernel), List.mem_of_getElem? (i := 746) (by decide +kernel), List.mem_of_getElem? (i := 747) (by decide +kernel)⟩
theorem lw_p23 : lw_okq (⟨"CardPayments$Terminal", "isGoodWithoutHost", "(LCardPayments$Content;)Z"⟩, 14) := ⟨⟨by decide +kernel, by decide +kernel⟩, List.mem_of_getElem? (i := 419) (by decide +kernel), List.mem_of_getElem? (i := 752) (by decide +kernel), List.mem_of_getElem? (i := 753) (by decide +kernel)⟩
theorem lw_p24 : lw_okq (⟨"CardPayments$Terminal", "takesWord", "(LCardPayments$Content;)Z"⟩, 14) := ⟨⟨by decide +kernel, by decide +kernel⟩, List.mem_of_getElem? (i := 419) (by decide +kernel), List.mem_of_getElem? (i := 757) (by decide +kernel), List.mem_of_getElem? (i := 758) (by decide +kernel)⟩
theorem lw_p25 : lw_okq (⟨"CardPayments$Terminal", "takeLast", "(LCardPayments$Content;)V"⟩, 14) := ⟨⟨by decide +kernel, by decide +kernel⟩, List.mem_of_getElem? (i := 419) (by decide +kernel), List.mem_of_getElem? (i := 762) (by decide +kernel), List.mem_of_getElem? (i := 763) (by decide +kernel)⟩
theorem lw_p26 : lw_okq (⟨"CardPayments$Card", "takesBegin", "(LCardPayments$Content;)Z"⟩, 12) := ⟨⟨by decide +kernel, by decide +kernel⟩, List.mem_of_getElem? (i := 223) (by decide +kernel), List.mem_of_getElem? (i := 775) (by decide +kernel), List.mem_of_getElem? (i := 776) (by decide +kernel)⟩
theorem lw_p27 : lw_okq (⟨"CardPayments$Card", "losesPower", "()Z"⟩, 12) := ⟨⟨by decide +kernel, by decide +kernel⟩, List.mem_of_getElem? (i := 223) (by decide +kernel), List.mem_of_getElem? (i := 780) (by decide +kernel), List.mem_of_getElem? (i := 781) (by decide +kernel)⟩
theorem lw_p28 : lw_okq (⟨"CardPayments$Card", "reply", "(LCardPayments$Content;I)V"⟩, 12) := ⟨⟨by decide +kernel, by decide +kernel⟩, List.mem_of_getElem? (i := 223) (by decide +kernel), List.mem_of_getElem? (i := 786) (by decide +kernel), List.mem_of_getElem? (i := 787) (by decide +kernel)⟩
theorem lw_p29 : lw_okq (⟨"CardPayments$Card", "takesPin", "(LCardPayments$Content;)Z"⟩, 12) := ⟨⟨by decide +kernel, by decide +kernel⟩, List.mem_of_getElem? (i := 223) (by decide +kernel), List.mem_of_getElem? (i := 791) (by decide +kernel), List.mem_of_getElem? (i := 792) (by decide +kernel)⟩
theorem lw_p30 : lw_okq (⟨"CardPayments$Card", "replyPinned", "(LCardPayments$Content;II)V"⟩, 12) := ⟨⟨by decide +kernel, by decide +kernel⟩, List.mem_of_getElem? (i := 223) (by decide +kernel), List.mem_of_getElem? (i := 795) (by decide +kernel), List.mem_of_getElem? (i := 796) (by decide +kernel)⟩
theorem lw_p31 : lw_okq (⟨"CardPayments$Card", "takesAsk", "(LCardPayments$Content;)Z"⟩, 12) := ⟨⟨by decide +kernel, by decide +kernel⟩, List.mem_of_getElem? (i := 223) (by decide +kernel), List.mem_of_getElem? (i := 799) (by decide +kernel), List.mem_of_getElem? (i := 800) (by decide +kernel)⟩
def lw_privs_2 : List (MethodName × Nat) := [(⟨"CardPayments$Host", "takesClear", "(LCardPayments$Content;)Z"⟩, 3), (⟨"CardPayments$Terminal", "takeCard", "(LCardPayments$Content;)V"⟩, 14), (⟨"CardPayments$Terminal", "end", "(I)V"⟩, 14), (⟨"CardPayments$Terminal", "ask", "(I)V"⟩, 14), (⟨"CardPayments$Terminal", "takePinned", "(LCardPayments$Content;)V"⟩, 14), (⟨"CardPayments$Terminal", "takeAnswer", "(LCardPayments$Content;)V"⟩, 14), (⟨"CardPayments$Terminal", "sendToHost", "(ILCardPayments$Payment;)Z"⟩, 14), (⟨"CardPayments$Terminal", "isGoodWithoutHost", "(LCardPayments$Content;)Z"⟩, 14), (⟨"CardPayments$Terminal", "takesWord", "(LCardPayments$Content;)Z"⟩, 14), (⟨"CardPayments$Terminal", "takeLast", "(LCardPayments$Content;)V"⟩, 14), (⟨"CardPayments$Card", "takesBegin", "(LCardPayments$Content;)Z"⟩, 12), (⟨"CardPayments$Card", "losesPower", "()Z"⟩, 12), (⟨"CardPayments$Card", "reply", "(LCardPayments$Content;I)V"⟩, 12), (⟨"CardPayments$Card", "takesPin", "(LCardPayments$Content;)Z"⟩, 12), (⟨"CardPayments$Card", "replyPinned", "(LCardPayments$Content;II)V"⟩, 12), (⟨"CardPayments$Card", "takesAsk", "(LCardPayments$Content;)Z"⟩, 12)]
theorem lw_r2 : ∀ q ∈ lw_privs_2, lw_okq q := List.forall_mem_cons.mpr ⟨lw_p16, List.forall_mem_cons.mpr ⟨lw_p17, List.forall_mem_cons.mpr ⟨lw_p18, List.forall_mem_cons.mpr ⟨lw_p19, List.forall_mem_cons.mpr ⟨lw_p20, List.forall_mem_cons.mpr ⟨lw_p21, List.forall_mem_cons.mpr ⟨lw_p22, List.forall_mem_cons.mpr ⟨lw_p23, List.forall_mem_cons.mpr ⟨lw_p24, List.forall_mem_cons.mpr ⟨lw_p25, List.forall_mem_cons.mpr ⟨lw_p26, List.forall_mem_cons.mpr ⟨lw_p27, List.forall_mem_cons.mpr ⟨lw_p28, List.forall_mem_cons.mpr ⟨lw_p29, List.forall_mem_cons.mpr ⟨lw_p30, List.forall_mem_cons.mpr ⟨lw_p31, fun _ h => absurd h List.not_mem_nil⟩⟩⟩⟩⟩⟩⟩⟩⟩⟩⟩⟩⟩⟩⟩⟩
theorem lw_p32 : lw_okq (⟨"CardPayments$Card", "answerTo", "(IJ)I"⟩, 12) := ⟨⟨by decide +kernel, by decide +kernel⟩, List.mem_of_getElem? (i := 223) (by decide +kernel), List.mem_of_getElem? (i := 804) (by decide +kernel), List.mem_of_getElem? (i := 805) (by decide +kernel)⟩
theorem lw_p33 : lw_okq (⟨"CardPayments$Card", "keepAsked", "(LCardPayments$Content;I)V"⟩, 12) := ⟨⟨by decide +kernel, by decide +kernel⟩, List.mem_of_getElem? (i := 223) (by decide +kernel), List.mem_of_getElem? (i := 808) (by decide +kernel), List.mem_of_getElem? (i := 809) (by decide +kernel)⟩
theorem lw_p34 : lw_okq (⟨"CardPayments$Card", "takesEnd", "(LCardPayments$Content;)Z"⟩, 12) := ⟨⟨by decide +kernel, by decide +kernel⟩, List.mem_of_getElem? (i := 223) (by decide +kernel), List.mem_of_getElem? (i := 814) (by decide +kernel), List.mem_of_getElem? (i := 815) (by decide +kernel)⟩
theorem lw_p35 : lw_okq (⟨"CardPayments$Card", "isApproved", "(LCardPayments$Content;)Z"⟩, 12) := ⟨⟨by decide +kernel, by decide +kernel⟩, List.mem_of_getElem? (i := 223) (by decide +kernel), List.mem_of_getElem? (i := 818) (by decide +kernel), List.mem_of_getElem? (i := 819) (by decide +kernel)⟩
theorem lw_p36 : lw_okq (⟨"CardPaymentsModel", "isMessage", "(I)Z"⟩, 63) := ⟨⟨by decide +kernel, by decide +kernel⟩, List.mem_of_getElem? (i := 936) (by decide +kernel), List.mem_of_getElem? (i := 1138) (by decide +kernel), List.mem_of_getElem? (i := 1139) (by decide +kernel)⟩
theorem lw_p37 : lw_okq (⟨"CardPaymentsModel", "remove", "(I)V"⟩, 63) := ⟨⟨by decide +kernel, by decide +kernel⟩, List.mem_of_getElem? (i := 936) (by decide +kernel), List.mem_of_getElem? (i := 1142) (by decide +kernel), List.mem_of_getElem? (i := 1143) (by decide +kernel)⟩
theorem lw_p38 : lw_okq (⟨"CardPaymentsModel", "read", "()I"⟩, 63) := ⟨⟨by decide +kernel, by decide +kernel⟩, List.mem_of_getElem? (i := 936) (by decide +kernel), List.mem_of_getElem? (i := 1146) (by decide +kernel), List.mem_of_getElem? (i := 1147) (by decide +kernel)⟩
theorem lw_p39 : lw_okq (⟨"CardPaymentsModel", "toCard", "(II)Z"⟩, 63) := ⟨⟨by decide +kernel, by decide +kernel⟩, List.mem_of_getElem? (i := 936) (by decide +kernel), List.mem_of_getElem? (i := 1157) (by decide +kernel), List.mem_of_getElem? (i := 1158) (by decide +kernel)⟩
theorem lw_p40 : lw_okq (⟨"CardPaymentsModel", "writes", "(I)Z"⟩, 63) := ⟨⟨by decide +kernel, by decide +kernel⟩, List.mem_of_getElem? (i := 936) (by decide +kernel), List.mem_of_getElem? (i := 1162) (by decide +kernel), List.mem_of_getElem? (i := 1163) (by decide +kernel)⟩
theorem lw_p41 : lw_okq (⟨"CardPaymentsModel", "begin", "(J)V"⟩, 63) := ⟨⟨by decide +kernel, by decide +kernel⟩, List.mem_of_getElem? (i := 936) (by decide +kernel), List.mem_of_getElem? (i := 1167) (by decide +kernel), List.mem_of_getElem? (i := 1168) (by decide +kernel)⟩
theorem lw_p42 : lw_okq (⟨"CardPaymentsModel", "more", "(J)V"⟩, 63) := ⟨⟨by decide +kernel, by decide +kernel⟩, List.mem_of_getElem? (i := 936) (by decide +kernel), List.mem_of_getElem? (i := 1171) (by decide +kernel), List.mem_of_getElem? (i := 1172) (by decide +kernel)⟩
theorem lw_p43 : lw_okq (⟨"CardPaymentsModel", "seal", "(IJ)I"⟩, 63) := ⟨⟨by decide +kernel, by decide +kernel⟩, List.mem_of_getElem? (i := 936) (by decide +kernel), List.mem_of_getElem? (i := 1175) (by decide +kernel), List.mem_of_getElem? (i := 1176) (by decide +kernel)⟩
theorem lw_p44 : lw_okq (⟨"CardPaymentsModel", "find", "(IJ)I"⟩, 63) := ⟨⟨by decide +kernel, by decide +kernel⟩, List.mem_of_getElem? (i := 936) (by decide +kernel), List.mem_of_getElem? (i := 1179) (by decide +kernel), List.mem_of_getElem? (i := 1180) (by decide +kernel)⟩
theorem lw_p45 : lw_okq (⟨"CardPaymentsModel", "reply", "(II)V"⟩, 63) := ⟨⟨by decide +kernel, by decide +kernel⟩, List.mem_of_getElem? (i := 936) (by decide +kernel), List.mem_of_getElem? (i := 1183) (by decide +kernel), List.mem_of_getElem? (i := 1184) (by decide +kernel)⟩
theorem lw_p46 : lw_okq (⟨"CardPaymentsModel", "send", "(IIIII)Z"⟩, 63) := ⟨⟨by decide +kernel, by decide +kernel⟩, List.mem_of_getElem? (i := 936) (by decide +kernel), List.mem_of_getElem? (i := 1187) (by decide +kernel), List.mem_of_getElem? (i := 1188) (by decide +kernel)⟩
theorem lw_p47 : lw_okq (⟨"CardPaymentsModel", "lie", "(IIIII)V"⟩, 63) := ⟨⟨by decide +kernel, by decide +kernel⟩, List.mem_of_getElem? (i := 936) (by decide +kernel), List.mem_of_getElem? (i := 1191) (by decide +kernel), List.mem_of_getElem? (i := 1192) (by decide +kernel)⟩
def lw_privs_3 : List (MethodName × Nat) := [(⟨"CardPayments$Card", "answerTo", "(IJ)I"⟩, 12), (⟨"CardPayments$Card", "keepAsked", "(LCardPayments$Content;I)V"⟩, 12), (⟨"CardPayments$Card", "takesEnd", "(LCardPayments$Content;)Z"⟩, 12), (⟨"CardPayments$Card", "isApproved", "(LCardPayments$Content;)Z"⟩, 12), (⟨"CardPaymentsModel", "isMessage", "(I)Z"⟩, 63), (⟨"CardPaymentsModel", "remove", "(I)V"⟩, 63), (⟨"CardPaymentsModel", "read", "()I"⟩, 63), (⟨"CardPaymentsModel", "toCard", "(II)Z"⟩, 63), (⟨"CardPaymentsModel", "writes", "(I)Z"⟩, 63), (⟨"CardPaymentsModel", "begin", "(J)V"⟩, 63), (⟨"CardPaymentsModel", "more", "(J)V"⟩, 63), (⟨"CardPaymentsModel", "seal", "(IJ)I"⟩, 63), (⟨"CardPaymentsModel", "find", "(IJ)I"⟩, 63), (⟨"CardPaymentsModel", "reply", "(II)V"⟩, 63), (⟨"CardPaymentsModel", "send", "(IIIII)Z"⟩, 63), (⟨"CardPaymentsModel", "lie", "(IIIII)V"⟩, 63)]
theorem lw_r3 : ∀ q ∈ lw_privs_3, lw_okq q := List.forall_mem_cons.mpr ⟨lw_p32, List.forall_mem_cons.mpr ⟨lw_p33, List.forall_mem_cons.mpr ⟨lw_p34, List.forall_mem_cons.mpr ⟨lw_p35, List.forall_mem_cons.mpr ⟨lw_p36, List.forall_mem_cons.mpr ⟨lw_p37, List.forall_mem_cons.mpr ⟨lw_p38, List.forall_mem_cons.mpr ⟨lw_p39, List.forall_mem_cons.mpr ⟨lw_p40, List.forall_mem_cons.mpr ⟨lw_p41, List.forall_mem_cons.mpr ⟨lw_p42, List.forall_mem_cons.mpr ⟨lw_p43, List.forall_mem_cons.mpr ⟨lw_p44, List.forall_mem_cons.mpr ⟨lw_p45, List.forall_mem_cons.mpr ⟨lw_p46, List.forall_mem_cons.mpr ⟨lw_p47, fun _ h => absurd h List.not_mem_nil⟩⟩⟩⟩⟩⟩⟩⟩⟩⟩⟩⟩⟩⟩⟩⟩
theorem lw_p48 : lw_okq (⟨"CardPaymentsModel", "typePin", "(I)V"⟩, 63) := ⟨⟨by decide +kernel, by decide +kernel⟩, List.mem_of_getElem? (i := 936) (by decide +kernel), List.mem_of_getElem? (i := 1195) (by decide +kernel), List.mem_of_getElem? (i := 1196) (by decide +kernel)⟩
theorem lw_p49 : lw_okq (⟨"CardPaymentsModel", "answer", "(I)V"⟩, 63) := ⟨⟨by decide +kernel, by decide +kernel⟩, List.mem_of_getElem? (i := 936) (by decide +kernel), List.mem_of_getElem? (i := 1199) (by decide +kernel), List.mem_of_getElem? (i := 1200) (by decide +kernel)⟩
theorem lw_p50 : lw_okq (⟨"CardPaymentsModel", "finish", "(I)V"⟩, 63) := ⟨⟨by decide +kernel, by decide +kernel⟩, List.mem_of_getElem? (i := 936) (by decide +kernel), List.mem_of_getElem? (i := 1204) (by decide +kernel), List.mem_of_getElem? (i := 1205) (by decide +kernel)⟩
theorem lw_p51 : lw_okq (⟨"CardPaymentsModel", "isGood", "(IJJ)Z"⟩, 63) := ⟨⟨by decide +kernel, by decide +kernel⟩, List.mem_of_getElem? (i := 936) (by decide +kernel), List.mem_of_getElem? (i := 1209) (by decide +kernel), List.mem_of_getElem? (i := 1210) (by decide +kernel)⟩
theorem lw_p52 : lw_okq (⟨"CardPaymentsModel", "toTerminal", "(II)Z"⟩, 63) := ⟨⟨by decide +kernel, by decide +kernel⟩, List.mem_of_getElem? (i := 936) (by decide +kernel), List.mem_of_getElem? (i := 1214) (by decide +kernel), List.mem_of_getElem? (i := 1215) (by decide +kernel)⟩
theorem lw_p53 : lw_okq (⟨"CardPaymentsModel", "takeCard", "(I)V"⟩, 63) := ⟨⟨by decide +kernel, by decide +kernel⟩, List.mem_of_getElem? (i := 936) (by decide +kernel), List.mem_of_getElem? (i := 1218) (by decide +kernel), List.mem_of_getElem? (i := 1219) (by decide +kernel)⟩
theorem lw_p54 : lw_okq (⟨"CardPaymentsModel", "end", "(II)V"⟩, 63) := ⟨⟨by decide +kernel, by decide +kernel⟩, List.mem_of_getElem? (i := 936) (by decide +kernel), List.mem_of_getElem? (i := 1222) (by decide +kernel), List.mem_of_getElem? (i := 1223) (by decide +kernel)⟩
theorem lw_p55 : lw_okq (⟨"CardPaymentsModel", "toItsCard", "(III)V"⟩, 63) := ⟨⟨by decide +kernel, by decide +kernel⟩, List.mem_of_getElem? (i := 936) (by decide +kernel), List.mem_of_getElem? (i := 1226) (by decide +kernel), List.mem_of_getElem? (i := 1227) (by decide +kernel)⟩
theorem lw_p56 : lw_okq (⟨"CardPaymentsModel", "ask", "(I)V"⟩, 63) := ⟨⟨by decide +kernel, by decide +kernel⟩, List.mem_of_getElem? (i := 936) (by decide +kernel), List.mem_of_getElem? (i := 1230) (by decide +kernel), List.mem_of_getElem? (i := 1231) (by decide +kernel)⟩
theorem lw_p57 : lw_okq (⟨"CardPaymentsModel", "takeAnswer", "(I)V"⟩, 63) := ⟨⟨by decide +kernel, by decide +kernel⟩, List.mem_of_getElem? (i := 936) (by decide +kernel), List.mem_of_getElem? (i := 1234) (by decide +kernel), List.mem_of_getElem? (i := 1235) (by decide +kernel)⟩
theorem lw_p58 : lw_okq (⟨"CardPaymentsModel", "fill", "(IJJ)V"⟩, 63) := ⟨⟨by decide +kernel, by decide +kernel⟩, List.mem_of_getElem? (i := 936) (by decide +kernel), List.mem_of_getElem? (i := 1238) (by decide +kernel), List.mem_of_getElem? (i := 1239) (by decide +kernel)⟩
theorem lw_p59 : lw_okq (⟨"CardPaymentsModel", "sign", "(II)V"⟩, 63) := ⟨⟨by decide +kernel, by decide +kernel⟩, List.mem_of_getElem? (i := 936) (by decide +kernel), List.mem_of_getElem? (i := 1242) (by decide +kernel), List.mem_of_getElem? (i := 1243) (by decide +kernel)⟩
theorem lw_p60 : lw_okq (⟨"CardPaymentsModel", "takeWord", "(I)Z"⟩, 63) := ⟨⟨by decide +kernel, by decide +kernel⟩, List.mem_of_getElem? (i := 936) (by decide +kernel), List.mem_of_getElem? (i := 1246) (by decide +kernel), List.mem_of_getElem? (i := 1247) (by decide +kernel)⟩
theorem lw_p61 : lw_okq (⟨"CardPaymentsModel", "toHost", "(I)Z"⟩, 63) := ⟨⟨by decide +kernel, by decide +kernel⟩, List.mem_of_getElem? (i := 936) (by decide +kernel), List.mem_of_getElem? (i := 1250) (by decide +kernel), List.mem_of_getElem? (i := 1251) (by decide +kernel)⟩
theorem lw_p62 : lw_okq (⟨"CardPaymentsModel", "isSigned", "(I)Z"⟩, 63) := ⟨⟨by decide +kernel, by decide +kernel⟩, List.mem_of_getElem? (i := 936) (by decide +kernel), List.mem_of_getElem? (i := 1254) (by decide +kernel), List.mem_of_getElem? (i := 1255) (by decide +kernel)⟩
theorem lw_p63 : lw_okq (⟨"CardPaymentsModel", "isAnswer", "(I)Z"⟩, 63) := ⟨⟨by decide +kernel, by decide +kernel⟩, List.mem_of_getElem? (i := 936) (by decide +kernel), List.mem_of_getElem? (i := 1258) (by decide +kernel), List.mem_of_getElem? (i := 1259) (by decide +kernel)⟩
def lw_privs_4 : List (MethodName × Nat) := [(⟨"CardPaymentsModel", "typePin", "(I)V"⟩, 63), (⟨"CardPaymentsModel", "answer", "(I)V"⟩, 63), (⟨"CardPaymentsModel", "finish", "(I)V"⟩, 63), (⟨"CardPaymentsModel", "isGood", "(IJJ)Z"⟩, 63), (⟨"CardPaymentsModel", "toTerminal", "(II)Z"⟩, 63), (⟨"CardPaymentsModel", "takeCard", "(I)V"⟩, 63), (⟨"CardPaymentsModel", "end", "(II)V"⟩, 63), (⟨"CardPaymentsModel", "toItsCard", "(III)V"⟩, 63), (⟨"CardPaymentsModel", "ask", "(I)V"⟩, 63), (⟨"CardPaymentsModel", "takeAnswer", "(I)V"⟩, 63), (⟨"CardPaymentsModel", "fill", "(IJJ)V"⟩, 63), (⟨"CardPaymentsModel", "sign", "(II)V"⟩, 63), (⟨"CardPaymentsModel", "takeWord", "(I)Z"⟩, 63), (⟨"CardPaymentsModel", "toHost", "(I)Z"⟩, 63), (⟨"CardPaymentsModel", "isSigned", "(I)Z"⟩, 63), (⟨"CardPaymentsModel", "isAnswer", "(I)Z"⟩, 63)]
theorem lw_r4 : ∀ q ∈ lw_privs_4, lw_okq q := List.forall_mem_cons.mpr ⟨lw_p48, List.forall_mem_cons.mpr ⟨lw_p49, List.forall_mem_cons.mpr ⟨lw_p50, List.forall_mem_cons.mpr ⟨lw_p51, List.forall_mem_cons.mpr ⟨lw_p52, List.forall_mem_cons.mpr ⟨lw_p53, List.forall_mem_cons.mpr ⟨lw_p54, List.forall_mem_cons.mpr ⟨lw_p55, List.forall_mem_cons.mpr ⟨lw_p56, List.forall_mem_cons.mpr ⟨lw_p57, List.forall_mem_cons.mpr ⟨lw_p58, List.forall_mem_cons.mpr ⟨lw_p59, List.forall_mem_cons.mpr ⟨lw_p60, List.forall_mem_cons.mpr ⟨lw_p61, List.forall_mem_cons.mpr ⟨lw_p62, List.forall_mem_cons.mpr ⟨lw_p63, fun _ h => absurd h List.not_mem_nil⟩⟩⟩⟩⟩⟩⟩⟩⟩⟩⟩⟩⟩⟩⟩⟩
theorem lw_p64 : lw_okq (⟨"CardPaymentsModel", "debit", "(I)V"⟩, 63) := ⟨⟨by decide +kernel, by decide +kernel⟩, List.mem_of_getElem? (i := 936) (by decide +kernel), List.mem_of_getElem? (i := 1262) (by decide +kernel), List.mem_of_getElem? (i := 1263) (by decide +kernel)⟩
theorem lw_p65 : lw_okq (⟨"CardPaymentsModel", "isThere", "(II)Z"⟩, 63) := ⟨⟨by decide +kernel, by decide +kernel⟩, List.mem_of_getElem? (i := 936) (by decide +kernel), List.mem_of_getElem? (i := 1309) (by decide +kernel), List.mem_of_getElem? (i := 1310) (by decide +kernel)⟩
def lw_privs_5 : List (MethodName × Nat) := [(⟨"CardPaymentsModel", "debit", "(I)V"⟩, 63), (⟨"CardPaymentsModel", "isThere", "(II)Z"⟩, 63)]
theorem lw_r5 : ∀ q ∈ lw_privs_5, lw_okq q := List.forall_mem_cons.mpr ⟨lw_p64, List.forall_mem_cons.mpr ⟨lw_p65, fun _ h => absurd h List.not_mem_nil⟩⟩
def lw_privs : List (MethodName × Nat) := lw_privs_1 ++ (lw_privs_2 ++ (lw_privs_3 ++ (lw_privs_4 ++ (lw_privs_5))))
def lw_tbl : List Cond := k2_sels lw_privs ++ tables_1
theorem lw_privs_ok : ∀ q ∈ lw_privs, lw_okq q := by
  show ∀ q ∈ lw_privs_1 ++ (lw_privs_2 ++ (lw_privs_3 ++ (lw_privs_4 ++ (lw_privs_5)))), lw_okq q
  exact List.forall_mem_append.mpr ⟨lw_r1, List.forall_mem_append.mpr ⟨lw_r2, List.forall_mem_append.mpr ⟨lw_r3, List.forall_mem_append.mpr ⟨lw_r4, lw_r5⟩⟩⟩⟩

def RX0 : String := "CardPayments$Account"
def TX0 : u_T := fun k => match k with
  | 0 => ("CardPayments$Account", "cents", "J", false)
  | _ => ("CardPayments$Account", "last", "I", false)
def tyX0 : Nat → FieldType := fun k => match k with
  | 0 => .long
  | _ => .int
abbrev wsX00 : List Cond := u_ws RX0 TX0 2
theorem nmX0 : ∀ a, a < 2 → ∀ b, b < 2 → a ≠ b → (TX0 a).2.1 ≠ (TX0 b).2.1 := by decide +kernel
theorem tyX0_ok : ∀ k, k < 2 → parseFieldDescriptor (TX0 k).2.2.1 = some (tyX0 k) := by decide +kernel
abbrev cX0_init : ByteArray := prog_2_method_1_code
def yX0_init : MethodName := ⟨RX0, "<init>", "(J)V"⟩
def RX1 : String := "CardPayments$Card"
def TX1 : u_T := fun k => match k with
  | 0 => ("CardPayments$Card", "world", "LCardPayments$World;", true)
  | 1 => ("CardPayments$Card", "number", "I", true)
  | 2 => ("CardPayments$Card", "pin", "I", true)
  | 3 => ("CardPayments$Card", "single", "J", true)
  | 4 => ("CardPayments$Card", "most", "I", true)
  | 5 => ("CardPayments$Card", "counter", "I", false)
  | 6 => ("CardPayments$Card", "tries", "I", false)
  | 7 => ("CardPayments$Card", "row", "I", false)
  | 8 => ("CardPayments$Card", "stage", "I", false)
  | 9 => ("CardPayments$Card", "writesToGo", "I", false)
  | 10 => ("CardPayments$Card", "way", "I", false)
  | _ => ("CardPayments$Card", "asked", "LCardPayments$Payment;", false)
def tyX1 : Nat → FieldType := fun k => match k with
  | 0 => .object "CardPayments$World"
  | 1 => .int
  | 2 => .int
  | 3 => .long
  | 4 => .int
  | 5 => .int
  | 6 => .int
  | 7 => .int
  | 8 => .int
  | 9 => .int
  | 10 => .int
  | _ => .object "CardPayments$Payment"
abbrev wsX10 : List Cond := u_ws RX1 TX1 12
theorem nmX1 : ∀ a, a < 12 → ∀ b, b < 12 → a ≠ b → (TX1 a).2.1 ≠ (TX1 b).2.1 := by decide +kernel
theorem tyX1_ok : ∀ k, k < 12 → parseFieldDescriptor (TX1 k).2.2.1 = some (tyX1 k) := by decide +kernel
abbrev cX1_init : ByteArray := prog_3_method_1_code
def yX1_init : MethodName := ⟨RX1, "<init>", "(LCardPayments$World;IIJI)V"⟩
abbrev cX1_takes : ByteArray := prog_3_method_2_code
def yX1_takes : MethodName := ⟨RX1, "takes", "(LCardPayments$Content;)Z"⟩
abbrev cX1_takesBegin : ByteArray := prog_3_method_3_code
def yX1_takesBegin : MethodName := ⟨RX1, "takesBegin", "(LCardPayments$Content;)Z"⟩
abbrev cX1_takesPin : ByteArray := prog_3_method_4_code
def yX1_takesPin : MethodName := ⟨RX1, "takesPin", "(LCardPayments$Content;)Z"⟩
abbrev cX1_replyPinned : ByteArray := prog_3_method_5_code
def yX1_replyPinned : MethodName := ⟨RX1, "replyPinned", "(LCardPayments$Content;II)V"⟩
abbrev cX1_takesAsk : ByteArray := prog_3_method_6_code
def yX1_takesAsk : MethodName := ⟨RX1, "takesAsk", "(LCardPayments$Content;)Z"⟩
abbrev cX1_answerTo : ByteArray := prog_3_method_7_code
def yX1_answerTo : MethodName := ⟨RX1, "answerTo", "(IJ)I"⟩
abbrev cX1_keepAsked : ByteArray := prog_3_method_8_code
def yX1_keepAsked : MethodName := ⟨RX1, "keepAsked", "(LCardPayments$Content;I)V"⟩
abbrev cX1_takesEnd : ByteArray := prog_3_method_9_code
def yX1_takesEnd : MethodName := ⟨RX1, "takesEnd", "(LCardPayments$Content;)Z"⟩
abbrev cX1_isApproved : ByteArray := prog_3_method_10_code
def yX1_isApproved : MethodName := ⟨RX1, "isApproved", "(LCardPayments$Content;)Z"⟩
abbrev cX1_reply : ByteArray := prog_3_method_11_code
def yX1_reply : MethodName := ⟨RX1, "reply", "(LCardPayments$Content;I)V"⟩
abbrev cX1_losesPower : ByteArray := prog_3_method_12_code
def yX1_losesPower : MethodName := ⟨RX1, "losesPower", "()Z"⟩
def RX2 : String := "CardPayments$Content"
def TX2 : u_T := fun k => match k with
  | 0 => ("CardPayments$Content", "kind", "I", false)
  | 1 => ("CardPayments$Content", "fromSort", "I", false)
  | 2 => ("CardPayments$Content", "from", "I", false)
  | _ => ("CardPayments$Content", "field", "[J", true)
def tyX2 : Nat → FieldType := fun k => match k with
  | 0 => .int
  | 1 => .int
  | 2 => .int
  | _ => .array .long
abbrev wsX20 : List Cond := u_ws RX2 TX2 4
theorem nmX2 : ∀ a, a < 4 → ∀ b, b < 4 → a ≠ b → (TX2 a).2.1 ≠ (TX2 b).2.1 := by decide +kernel
theorem tyX2_ok : ∀ k, k < 4 → parseFieldDescriptor (TX2 k).2.2.1 = some (tyX2 k) := by decide +kernel
abbrev cX2_init : ByteArray := prog_4_method_1_code
def yX2_init : MethodName := ⟨RX2, "<init>", "()V"⟩
abbrev cX2_intField : ByteArray := prog_4_method_2_code
def yX2_intField : MethodName := ⟨RX2, "intField", "(I)I"⟩
def RX3 : String := "CardPayments$Host"
def TX3 : u_T := fun k => match k with
  | 0 => ("CardPayments$Host", "world", "LCardPayments$World;", true)
  | 1 => ("CardPayments$Host", "accounts", "Ljava/util/ArrayList;", true)
  | _ => ("CardPayments$Host", "debits", "Ljava/util/ArrayList;", true)
def tyX3 : Nat → FieldType := fun k => match k with
  | 0 => .object "CardPayments$World"
  | 1 => .object "java/util/ArrayList"
  | _ => .object "java/util/ArrayList"
abbrev wsX30 : List Cond := u_ws RX3 TX3 3
theorem nmX3 : ∀ a, a < 3 → ∀ b, b < 3 → a ≠ b → (TX3 a).2.1 ≠ (TX3 b).2.1 := by decide +kernel
theorem tyX3_ok : ∀ k, k < 3 → parseFieldDescriptor (TX3 k).2.2.1 = some (tyX3 k) := by decide +kernel
abbrev cX3_init : ByteArray := prog_5_method_1_code
def yX3_init : MethodName := ⟨RX3, "<init>", "(LCardPayments$World;)V"⟩
abbrev cX3_takes : ByteArray := prog_5_method_2_code
def yX3_takes : MethodName := ⟨RX3, "takes", "(LCardPayments$Content;)Z"⟩
abbrev cX3_takesRequest : ByteArray := prog_5_method_3_code
def yX3_takesRequest : MethodName := ⟨RX3, "takesRequest", "(LCardPayments$Content;)Z"⟩
abbrev cX3_wordFor : ByteArray := prog_5_method_4_code
def yX3_wordFor : MethodName := ⟨RX3, "wordFor", "(LCardPayments$Payment;)I"⟩
abbrev cX3_takesClear : ByteArray := prog_5_method_5_code
def yX3_takesClear : MethodName := ⟨RX3, "takesClear", "(LCardPayments$Content;)Z"⟩
abbrev cX3_take : ByteArray := prog_5_method_6_code
def yX3_take : MethodName := ⟨RX3, "take", "(LCardPayments$Account;LCardPayments$Payment;)V"⟩
abbrev cX3_paymentOf : ByteArray := prog_5_method_7_code
def yX3_paymentOf : MethodName := ⟨RX3, "paymentOf", "(LCardPayments$Content;I)LCardPayments$Payment;"⟩
abbrev cX3_isFromTerminal : ByteArray := prog_5_method_8_code
def yX3_isFromTerminal : MethodName := ⟨RX3, "isFromTerminal", "(LCardPayments$Content;LCardPayments$Payment;)Z"⟩
abbrev cX3_isAnswerOfCard : ByteArray := prog_5_method_9_code
def yX3_isAnswerOfCard : MethodName := ⟨RX3, "isAnswerOfCard", "(LCardPayments$Payment;)Z"⟩
abbrev cX3_debitsOfCounter : ByteArray := prog_5_method_10_code
def yX3_debitsOfCounter : MethodName := ⟨RX3, "debitsOfCounter", "(LCardPayments$Payment;)I"⟩
def RX4 : String := "CardPayments$Message"
def TX4 : u_T := fun k => match k with
  | 0 => ("CardPayments$Message", "fromSort", "I", false)
  | 1 => ("CardPayments$Message", "from", "I", false)
  | 2 => ("CardPayments$Message", "toSort", "I", false)
  | 3 => ("CardPayments$Message", "to", "I", false)
  | 4 => ("CardPayments$Message", "size", "I", false)
  | _ => ("CardPayments$Message", "bytes", "[I", true)
def tyX4 : Nat → FieldType := fun k => match k with
  | 0 => .int
  | 1 => .int
  | 2 => .int
  | 3 => .int
  | 4 => .int
  | _ => .array .int
abbrev wsX40 : List Cond := u_ws RX4 TX4 6
theorem nmX4 : ∀ a, a < 6 → ∀ b, b < 6 → a ≠ b → (TX4 a).2.1 ≠ (TX4 b).2.1 := by decide +kernel
theorem tyX4_ok : ∀ k, k < 6 → parseFieldDescriptor (TX4 k).2.2.1 = some (tyX4 k) := by decide +kernel
abbrev cX4_init : ByteArray := prog_6_method_1_code
def yX4_init : MethodName := ⟨RX4, "<init>", "()V"⟩
abbrev cX4_has : ByteArray := prog_6_method_2_code
def yX4_has : MethodName := ⟨RX4, "has", "(I)Z"⟩
abbrev cX4_copyBytes : ByteArray := prog_6_method_3_code
def yX4_copyBytes : MethodName := ⟨RX4, "copyBytes", "([II)V"⟩
abbrev cX4_write : ByteArray := prog_6_method_4_code
def yX4_write : MethodName := ⟨RX4, "write", "(LCardPayments$Content;)V"⟩
abbrev cX4_writeField : ByteArray := prog_6_method_5_code
def yX4_writeField : MethodName := ⟨RX4, "writeField", "(IJ)V"⟩
abbrev cX4_read : ByteArray := prog_6_method_6_code
def yX4_read : MethodName := ⟨RX4, "read", "(LCardPayments$Content;)Z"⟩
abbrev cX4_isFieldAt : ByteArray := prog_6_method_7_code
def yX4_isFieldAt : MethodName := ⟨RX4, "isFieldAt", "(II)Z"⟩
abbrev cX4_numberAt : ByteArray := prog_6_method_8_code
def yX4_numberAt : MethodName := ⟨RX4, "numberAt", "(II)J"⟩
abbrev cX4_hasField : ByteArray := prog_6_method_9_code
def yX4_hasField : MethodName := ⟨RX4, "hasField", "(II)Z"⟩
def RX5 : String := "CardPayments$Payment"
def TX5 : u_T := fun k => match k with
  | 0 => ("CardPayments$Payment", "card", "I", false)
  | 1 => ("CardPayments$Payment", "counter", "I", false)
  | 2 => ("CardPayments$Payment", "amount", "J", false)
  | 3 => ("CardPayments$Payment", "un", "J", false)
  | 4 => ("CardPayments$Payment", "terminal", "I", false)
  | 5 => ("CardPayments$Payment", "way", "I", false)
  | 6 => ("CardPayments$Payment", "answer", "I", false)
  | _ => ("CardPayments$Payment", "seal", "J", false)
def tyX5 : Nat → FieldType := fun k => match k with
  | 0 => .int
  | 1 => .int
  | 2 => .long
  | 3 => .long
  | 4 => .int
  | 5 => .int
  | 6 => .int
  | _ => .long
abbrev wsX50 : List Cond := u_ws RX5 TX5 8
theorem nmX5 : ∀ a, a < 8 → ∀ b, b < 8 → a ≠ b → (TX5 a).2.1 ≠ (TX5 b).2.1 := by decide +kernel
theorem tyX5_ok : ∀ k, k < 8 → parseFieldDescriptor (TX5 k).2.2.1 = some (tyX5 k) := by decide +kernel
abbrev cX5_init : ByteArray := prog_7_method_1_code
def yX5_init : MethodName := ⟨RX5, "<init>", "()V"⟩
def RX6 : String := "CardPayments$Seal"
def TX6 : u_T := fun k => match k with
  | 0 => ("CardPayments$Seal", "sort", "I", true)
  | 1 => ("CardPayments$Seal", "number", "I", true)
  | _ => ("CardPayments$Seal", "row", "[J", true)
def tyX6 : Nat → FieldType := fun k => match k with
  | 0 => .int
  | 1 => .int
  | _ => .array .long
abbrev wsX60 : List Cond := u_ws RX6 TX6 3
theorem nmX6 : ∀ a, a < 3 → ∀ b, b < 3 → a ≠ b → (TX6 a).2.1 ≠ (TX6 b).2.1 := by decide +kernel
theorem tyX6_ok : ∀ k, k < 3 → parseFieldDescriptor (TX6 k).2.2.1 = some (tyX6 k) := by decide +kernel
abbrev cX6_init : ByteArray := prog_8_method_1_code
def yX6_init : MethodName := ⟨RX6, "<init>", "(II[J)V"⟩
def RX7 : String := "CardPayments$Seals"
def TX7 : u_T := fun k => match k with
  | 0 => ("CardPayments$Seals", "made", "Ljava/util/ArrayList;", true)
  | 1 => ("CardPayments$Seals", "row", "[J", true)
  | 2 => ("CardPayments$Seals", "size", "I", false)
  | 3 => ("CardPayments$Seals", "sort", "I", false)
  | _ => ("CardPayments$Seals", "number", "I", false)
def tyX7 : Nat → FieldType := fun k => match k with
  | 0 => .object "java/util/ArrayList"
  | 1 => .array .long
  | 2 => .int
  | 3 => .int
  | _ => .int
abbrev wsX70 : List Cond := u_ws RX7 TX7 5
theorem nmX7 : ∀ a, a < 5 → ∀ b, b < 5 → a ≠ b → (TX7 a).2.1 ≠ (TX7 b).2.1 := by decide +kernel
theorem tyX7_ok : ∀ k, k < 5 → parseFieldDescriptor (TX7 k).2.2.1 = some (tyX7 k) := by decide +kernel
abbrev cX7_init : ByteArray := prog_9_method_1_code
def yX7_init : MethodName := ⟨RX7, "<init>", "()V"⟩
abbrev cX7_ofCard : ByteArray := prog_9_method_2_code
def yX7_ofCard : MethodName := ⟨RX7, "ofCard", "(IIJ)LCardPayments$Seals;"⟩
abbrev cX7_ofAnswer : ByteArray := prog_9_method_3_code
def yX7_ofAnswer : MethodName := ⟨RX7, "ofAnswer", "(LCardPayments$Payment;)LCardPayments$Seals;"⟩
abbrev cX7_ofLast : ByteArray := prog_9_method_4_code
def yX7_ofLast : MethodName := ⟨RX7, "ofLast", "(LCardPayments$Payment;I)LCardPayments$Seals;"⟩
abbrev cX7_ofTerminal : ByteArray := prog_9_method_5_code
def yX7_ofTerminal : MethodName := ⟨RX7, "ofTerminal", "(ILCardPayments$Payment;)LCardPayments$Seals;"⟩
abbrev cX7_ofWordToCard : ByteArray := prog_9_method_6_code
def yX7_ofWordToCard : MethodName := ⟨RX7, "ofWordToCard", "(III)LCardPayments$Seals;"⟩
abbrev cX7_ofWordToTerminal : ByteArray := prog_9_method_7_code
def yX7_ofWordToTerminal : MethodName := ⟨RX7, "ofWordToTerminal", "(LCardPayments$Payment;I)LCardPayments$Seals;"⟩
abbrev cX7_seal : ByteArray := prog_9_method_8_code
def yX7_seal : MethodName := ⟨RX7, "seal", "()J"⟩
abbrev cX7_isGood : ByteArray := prog_9_method_9_code
def yX7_isGood : MethodName := ⟨RX7, "isGood", "(J)Z"⟩
abbrev cX7_key : ByteArray := prog_9_method_10_code
def yX7_key : MethodName := ⟨RX7, "key", "(II)LCardPayments$Seals;"⟩
abbrev cX7_with : ByteArray := prog_9_method_11_code
def yX7_with : MethodName := ⟨RX7, "with", "(J)LCardPayments$Seals;"⟩
abbrev cX7_isTheirs : ByteArray := prog_9_method_12_code
def yX7_isTheirs : MethodName := ⟨RX7, "isTheirs", "(LCardPayments$Seal;)Z"⟩
def RX8 : String := "CardPayments$Terminal"
def TX8 : u_T := fun k => match k with
  | 0 => ("CardPayments$Terminal", "world", "LCardPayments$World;", true)
  | 1 => ("CardPayments$Terminal", "number", "I", true)
  | 2 => ("CardPayments$Terminal", "floor", "J", true)
  | 3 => ("CardPayments$Terminal", "pinFrom", "J", true)
  | 4 => ("CardPayments$Terminal", "batch", "Ljava/util/ArrayList;", true)
  | 5 => ("CardPayments$Terminal", "outcome", "I", false)
  | 6 => ("CardPayments$Terminal", "draw", "J", false)
  | 7 => ("CardPayments$Terminal", "toldCard", "I", false)
  | 8 => ("CardPayments$Terminal", "typedPin", "I", false)
  | 9 => ("CardPayments$Terminal", "payment", "LCardPayments$Payment;", false)
  | 10 => ("CardPayments$Terminal", "keptCounter", "I", false)
  | 11 => ("CardPayments$Terminal", "word", "I", false)
  | 12 => ("CardPayments$Terminal", "waitsFor", "I", false)
  | _ => ("CardPayments$Terminal", "waited", "I", false)
def tyX8 : Nat → FieldType := fun k => match k with
  | 0 => .object "CardPayments$World"
  | 1 => .int
  | 2 => .long
  | 3 => .long
  | 4 => .object "java/util/ArrayList"
  | 5 => .int
  | 6 => .long
  | 7 => .int
  | 8 => .int
  | 9 => .object "CardPayments$Payment"
  | 10 => .int
  | 11 => .int
  | 12 => .int
  | _ => .int
abbrev wsX80 : List Cond := u_ws RX8 TX8 14
theorem nmX8 : ∀ a, a < 14 → ∀ b, b < 14 → a ≠ b → (TX8 a).2.1 ≠ (TX8 b).2.1 := by decide +kernel
theorem tyX8_ok : ∀ k, k < 14 → parseFieldDescriptor (TX8 k).2.2.1 = some (tyX8 k) := by decide +kernel
abbrev cX8_init : ByteArray := prog_10_method_1_code
def yX8_init : MethodName := ⟨RX8, "<init>", "(LCardPayments$World;IJJ)V"⟩
abbrev cX8_start : ByteArray := prog_10_method_2_code
def yX8_start : MethodName := ⟨RX8, "start", "(IJI)I"⟩
abbrev cX8_takes : ByteArray := prog_10_method_3_code
def yX8_takes : MethodName := ⟨RX8, "takes", "(LCardPayments$Content;)Z"⟩
abbrev cX8_takeCard : ByteArray := prog_10_method_4_code
def yX8_takeCard : MethodName := ⟨RX8, "takeCard", "(LCardPayments$Content;)V"⟩
abbrev cX8_takePinned : ByteArray := prog_10_method_5_code
def yX8_takePinned : MethodName := ⟨RX8, "takePinned", "(LCardPayments$Content;)V"⟩
abbrev cX8_ask : ByteArray := prog_10_method_6_code
def yX8_ask : MethodName := ⟨RX8, "ask", "(I)V"⟩
abbrev cX8_takeAnswer : ByteArray := prog_10_method_7_code
def yX8_takeAnswer : MethodName := ⟨RX8, "takeAnswer", "(LCardPayments$Content;)V"⟩
abbrev cX8_isGoodWithoutHost : ByteArray := prog_10_method_8_code
def yX8_isGoodWithoutHost : MethodName := ⟨RX8, "isGoodWithoutHost", "(LCardPayments$Content;)Z"⟩
abbrev cX8_takesWord : ByteArray := prog_10_method_9_code
def yX8_takesWord : MethodName := ⟨RX8, "takesWord", "(LCardPayments$Content;)Z"⟩
abbrev cX8_takeLast : ByteArray := prog_10_method_10_code
def yX8_takeLast : MethodName := ⟨RX8, "takeLast", "(LCardPayments$Content;)V"⟩
abbrev cX8_sendBatch : ByteArray := prog_10_method_11_code
def yX8_sendBatch : MethodName := ⟨RX8, "sendBatch", "()I"⟩
abbrev cX8_sendToHost : ByteArray := prog_10_method_12_code
def yX8_sendToHost : MethodName := ⟨RX8, "sendToHost", "(ILCardPayments$Payment;)Z"⟩
abbrev cX8_sendToCard : ByteArray := prog_10_method_13_code
def yX8_sendToCard : MethodName := ⟨RX8, "sendToCard", "(II)V"⟩
abbrev cX8_waitFor : ByteArray := prog_10_method_14_code
def yX8_waitFor : MethodName := ⟨RX8, "waitFor", "(I)V"⟩
abbrev cX8_end : ByteArray := prog_10_method_15_code
def yX8_end : MethodName := ⟨RX8, "end", "(I)V"⟩
abbrev cX8_givesUpAfter : ByteArray := prog_10_method_16_code
def yX8_givesUpAfter : MethodName := ⟨RX8, "givesUpAfter", "(I)Z"⟩
def RX9 : String := "CardPayments$Wires"
def TX9 : u_T := fun k => match k with
  | 0 => ("CardPayments$Wires", "waiting", "[LCardPayments$Message;", true)
  | _ => ("CardPayments$Wires", "size", "I", false)
def tyX9 : Nat → FieldType := fun k => match k with
  | 0 => .array (.object "CardPayments$Message")
  | _ => .int
abbrev wsX90 : List Cond := u_ws RX9 TX9 2
theorem nmX9 : ∀ a, a < 2 → ∀ b, b < 2 → a ≠ b → (TX9 a).2.1 ≠ (TX9 b).2.1 := by decide +kernel
theorem tyX9_ok : ∀ k, k < 2 → parseFieldDescriptor (TX9 k).2.2.1 = some (tyX9 k) := by decide +kernel
abbrev cX9_init : ByteArray := prog_11_method_1_code
def yX9_init : MethodName := ⟨RX9, "<init>", "()V"⟩
abbrev cX9_get : ByteArray := prog_11_method_2_code
def yX9_get : MethodName := ⟨RX9, "get", "(I)LCardPayments$Message;"⟩
abbrev cX9_add : ByteArray := prog_11_method_3_code
def yX9_add : MethodName := ⟨RX9, "add", "(IIII)LCardPayments$Message;"⟩
abbrev cX9_takeOff : ByteArray := prog_11_method_4_code
def yX9_takeOff : MethodName := ⟨RX9, "takeOff", "(I)LCardPayments$Message;"⟩
def RX10 : String := "CardPayments$World"
def TX10 : u_T := fun k => match k with
  | 0 => ("CardPayments$World", "wires", "LCardPayments$Wires;", true)
  | 1 => ("CardPayments$World", "seals", "LCardPayments$Seals;", true)
  | 2 => ("CardPayments$World", "cards", "Ljava/util/ArrayList;", true)
  | 3 => ("CardPayments$World", "terminals", "Ljava/util/ArrayList;", true)
  | 4 => ("CardPayments$World", "purchases", "Ljava/util/ArrayList;", true)
  | 5 => ("CardPayments$World", "answers", "Ljava/util/ArrayList;", true)
  | 6 => ("CardPayments$World", "came", "LCardPayments$Content;", true)
  | _ => ("CardPayments$World", "goes", "LCardPayments$Content;", true)
def tyX10 : Nat → FieldType := fun k => match k with
  | 0 => .object "CardPayments$Wires"
  | 1 => .object "CardPayments$Seals"
  | 2 => .object "java/util/ArrayList"
  | 3 => .object "java/util/ArrayList"
  | 4 => .object "java/util/ArrayList"
  | 5 => .object "java/util/ArrayList"
  | 6 => .object "CardPayments$Content"
  | _ => .object "CardPayments$Content"
abbrev wsX100 : List Cond := u_ws RX10 TX10 8
theorem nmX10 : ∀ a, a < 8 → ∀ b, b < 8 → a ≠ b → (TX10 a).2.1 ≠ (TX10 b).2.1 := by decide +kernel
theorem tyX10_ok : ∀ k, k < 8 → parseFieldDescriptor (TX10 k).2.2.1 = some (tyX10 k) := by decide +kernel
abbrev cX10_init : ByteArray := prog_12_method_1_code
def yX10_init : MethodName := ⟨RX10, "<init>", "()V"⟩
abbrev cX10_isCard : ByteArray := prog_12_method_2_code
def yX10_isCard : MethodName := ⟨RX10, "isCard", "(I)Z"⟩
abbrev cX10_isTerminal : ByteArray := prog_12_method_3_code
def yX10_isTerminal : MethodName := ⟨RX10, "isTerminal", "(I)Z"⟩
abbrev cX10_isSomebody : ByteArray := prog_12_method_4_code
def yX10_isSomebody : MethodName := ⟨RX10, "isSomebody", "(II)Z"⟩
abbrev cX10_send : ByteArray := prog_12_method_5_code
def yX10_send : MethodName := ⟨RX10, "send", "(IIIII)Z"⟩
abbrev cX10_purchasesLike : ByteArray := prog_12_method_6_code
def yX10_purchasesLike : MethodName := ⟨RX10, "purchasesLike", "(LCardPayments$Payment;)I"⟩
abbrev cX10_wasAnswered : ByteArray := prog_12_method_7_code
def yX10_wasAnswered : MethodName := ⟨RX10, "wasAnswered", "(LCardPayments$Payment;)Z"⟩
def RX11 : String := "CardPayments"
def TX11 : u_T := fun k => match k with
  | 0 => ("CardPayments", "world", "LCardPayments$World;", true)
  | 1 => ("CardPayments", "host", "LCardPayments$Host;", true)
  | 2 => ("CardPayments", "strangersRow", "[I", true)
  | _ => ("CardPayments", "strangersBytes", "I", false)
def tyX11 : Nat → FieldType := fun k => match k with
  | 0 => .object "CardPayments$World"
  | 1 => .object "CardPayments$Host"
  | 2 => .array .int
  | _ => .int
abbrev wsX110 : List Cond := u_ws RX11 TX11 4
theorem nmX11 : ∀ a, a < 4 → ∀ b, b < 4 → a ≠ b → (TX11 a).2.1 ≠ (TX11 b).2.1 := by decide +kernel
theorem tyX11_ok : ∀ k, k < 4 → parseFieldDescriptor (TX11 k).2.2.1 = some (tyX11 k) := by decide +kernel
abbrev cX11_init : ByteArray := prog_1_method_1_code
def yX11_init : MethodName := ⟨RX11, "<init>", "()V"⟩
abbrev cX11_card : ByteArray := prog_1_method_2_code
def yX11_card : MethodName := ⟨RX11, "card", "(IJIJ)I"⟩
abbrev cX11_terminal : ByteArray := prog_1_method_3_code
def yX11_terminal : MethodName := ⟨RX11, "terminal", "(JJ)I"⟩
abbrev cX11_purchase : ByteArray := prog_1_method_4_code
def yX11_purchase : MethodName := ⟨RX11, "purchase", "(IIJI)I"⟩
abbrev cX11_deliver : ByteArray := prog_1_method_5_code
def yX11_deliver : MethodName := ⟨RX11, "deliver", "(I)I"⟩
abbrev cX11_alter : ByteArray := prog_1_method_6_code
def yX11_alter : MethodName := ⟨RX11, "alter", "(III)Z"⟩
abbrev cX11_drop : ByteArray := prog_1_method_7_code
def yX11_drop : MethodName := ⟨RX11, "drop", "(I)Z"⟩
abbrev cX11_again : ByteArray := prog_1_method_8_code
def yX11_again : MethodName := ⟨RX11, "again", "(I)Z"⟩
abbrev cX11_put : ByteArray := prog_1_method_9_code
def yX11_put : MethodName := ⟨RX11, "put", "(I)I"⟩
abbrev cX11_inject : ByteArray := prog_1_method_10_code
def yX11_inject : MethodName := ⟨RX11, "inject", "(IIII)Z"⟩
abbrev cX11_power : ByteArray := prog_1_method_11_code
def yX11_power : MethodName := ⟨RX11, "power", "(II)Z"⟩
abbrev cX11_tick : ByteArray := prog_1_method_12_code
def yX11_tick : MethodName := ⟨RX11, "tick", "(I)I"⟩
abbrev cX11_clear : ByteArray := prog_1_method_13_code
def yX11_clear : MethodName := ⟨RX11, "clear", "(I)I"⟩
abbrev cX11_count : ByteArray := prog_1_method_14_code
def yX11_count : MethodName := ⟨RX11, "count", "(I)I"⟩
abbrev cX11_outcome : ByteArray := prog_1_method_15_code
def yX11_outcome : MethodName := ⟨RX11, "outcome", "(I)I"⟩
abbrev cX11_told : ByteArray := prog_1_method_16_code
def yX11_told : MethodName := ⟨RX11, "told", "(II)I"⟩
abbrev cX11_account : ByteArray := prog_1_method_17_code
def yX11_account : MethodName := ⟨RX11, "account", "(I)J"⟩
abbrev cX11_debit : ByteArray := prog_1_method_18_code
def yX11_debit : MethodName := ⟨RX11, "debit", "(II)J"⟩
abbrev cX11_message : ByteArray := prog_1_method_19_code
def yX11_message : MethodName := ⟨RX11, "message", "(II)I"⟩
abbrev cX11_at : ByteArray := prog_1_method_20_code
def yX11_at : MethodName := ⟨RX11, "at", "(II)I"⟩
abbrev cX11_matched : ByteArray := prog_1_method_21_code
def yX11_matched : MethodName := ⟨RX11, "matched", "()Z"⟩
abbrev cX11_isWithin : ByteArray := prog_1_method_22_code
def yX11_isWithin : MethodName := ⟨RX11, "isWithin", "(JJJ)Z"⟩
def RX12 : String := "CardPaymentsModel"
def TX12 : u_T := fun k => match k with
  | 0 => ("CardPaymentsModel", "seals", "I", false)
  | 1 => ("CardPaymentsModel", "sealKeys", "[I", true)
  | 2 => ("CardPaymentsModel", "sealSizes", "[I", true)
  | 3 => ("CardPaymentsModel", "sealNumbers", "[J", true)
  | 4 => ("CardPaymentsModel", "row", "[J", true)
  | 5 => ("CardPaymentsModel", "rowSize", "I", false)
  | 6 => ("CardPaymentsModel", "messages", "I", false)
  | 7 => ("CardPaymentsModel", "fromSort", "[I", true)
  | 8 => ("CardPaymentsModel", "fromNumber", "[I", true)
  | 9 => ("CardPaymentsModel", "toSort", "[I", true)
  | 10 => ("CardPaymentsModel", "toNumber", "[I", true)
  | 11 => ("CardPaymentsModel", "sizes", "[I", true)
  | 12 => ("CardPaymentsModel", "bytes", "[I", true)
  | 13 => ("CardPaymentsModel", "inFromSort", "I", false)
  | 14 => ("CardPaymentsModel", "inFromNumber", "I", false)
  | 15 => ("CardPaymentsModel", "in", "[I", true)
  | 16 => ("CardPaymentsModel", "inSize", "I", false)
  | 17 => ("CardPaymentsModel", "field", "[J", true)
  | 18 => ("CardPaymentsModel", "sends", "[J", true)
  | 19 => ("CardPaymentsModel", "strange", "[I", true)
  | 20 => ("CardPaymentsModel", "strangeSize", "I", false)
  | 21 => ("CardPaymentsModel", "cards", "I", false)
  | 22 => ("CardPaymentsModel", "pins", "[I", true)
  | 23 => ("CardPaymentsModel", "singles", "[J", true)
  | 24 => ("CardPaymentsModel", "mosts", "[I", true)
  | 25 => ("CardPaymentsModel", "accounts", "[J", true)
  | 26 => ("CardPaymentsModel", "lasts", "[I", true)
  | 27 => ("CardPaymentsModel", "counters", "[I", true)
  | 28 => ("CardPaymentsModel", "tries", "[I", true)
  | 29 => ("CardPaymentsModel", "rows", "[I", true)
  | 30 => ("CardPaymentsModel", "stages", "[I", true)
  | 31 => ("CardPaymentsModel", "ways", "[I", true)
  | 32 => ("CardPaymentsModel", "askedAmount", "[J", true)
  | 33 => ("CardPaymentsModel", "askedUn", "[J", true)
  | 34 => ("CardPaymentsModel", "askedTerminal", "[J", true)
  | 35 => ("CardPaymentsModel", "power", "[I", true)
  | 36 => ("CardPaymentsModel", "terminals", "I", false)
  | 37 => ("CardPaymentsModel", "floors", "[J", true)
  | 38 => ("CardPaymentsModel", "pinFroms", "[J", true)
  | 39 => ("CardPaymentsModel", "draws", "[J", true)
  | 40 => ("CardPaymentsModel", "outcomes", "[I", true)
  | 41 => ("CardPaymentsModel", "waits", "[I", true)
  | 42 => ("CardPaymentsModel", "sentAt", "[J", true)
  | 43 => ("CardPaymentsModel", "toCard", "[I", true)
  | 44 => ("CardPaymentsModel", "amounts", "[J", true)
  | 45 => ("CardPaymentsModel", "uns", "[J", true)
  | 46 => ("CardPaymentsModel", "typed", "[I", true)
  | 47 => ("CardPaymentsModel", "keptCard", "[I", true)
  | 48 => ("CardPaymentsModel", "keptCounter", "[I", true)
  | 49 => ("CardPaymentsModel", "ownWay", "[I", true)
  | 50 => ("CardPaymentsModel", "requestCounter", "[I", true)
  | 51 => ("CardPaymentsModel", "word", "[I", true)
  | 52 => ("CardPaymentsModel", "time", "J", false)
  | 53 => ("CardPaymentsModel", "batched", "I", false)
  | 54 => ("CardPaymentsModel", "batchOf", "[I", true)
  | 55 => ("CardPaymentsModel", "isSent", "[Z", true)
  | 56 => ("CardPaymentsModel", "batch", "[J", true)
  | 57 => ("CardPaymentsModel", "purchases", "I", false)
  | 58 => ("CardPaymentsModel", "bought", "[J", true)
  | 59 => ("CardPaymentsModel", "answers", "I", false)
  | 60 => ("CardPaymentsModel", "answered", "[J", true)
  | 61 => ("CardPaymentsModel", "debits", "I", false)
  | _ => ("CardPaymentsModel", "debited", "[J", true)
def tyX12 : Nat → FieldType := fun k => match k with
  | 0 => .int
  | 1 => .array .int
  | 2 => .array .int
  | 3 => .array .long
  | 4 => .array .long
  | 5 => .int
  | 6 => .int
  | 7 => .array .int
  | 8 => .array .int
  | 9 => .array .int
  | 10 => .array .int
  | 11 => .array .int
  | 12 => .array .int
  | 13 => .int
  | 14 => .int
  | 15 => .array .int
  | 16 => .int
  | 17 => .array .long
  | 18 => .array .long
  | 19 => .array .int
  | 20 => .int
  | 21 => .int
  | 22 => .array .int
  | 23 => .array .long
  | 24 => .array .int
  | 25 => .array .long
  | 26 => .array .int
  | 27 => .array .int
  | 28 => .array .int
  | 29 => .array .int
  | 30 => .array .int
  | 31 => .array .int
  | 32 => .array .long
  | 33 => .array .long
  | 34 => .array .long
  | 35 => .array .int
  | 36 => .int
  | 37 => .array .long
  | 38 => .array .long
  | 39 => .array .long
  | 40 => .array .int
  | 41 => .array .int
  | 42 => .array .long
  | 43 => .array .int
  | 44 => .array .long
  | 45 => .array .long
  | 46 => .array .int
  | 47 => .array .int
  | 48 => .array .int
  | 49 => .array .int
  | 50 => .array .int
  | 51 => .array .int
  | 52 => .long
  | 53 => .int
  | 54 => .array .int
  | 55 => .array .boolean
  | 56 => .array .long
  | 57 => .int
  | 58 => .array .long
  | 59 => .int
  | 60 => .array .long
  | 61 => .int
  | _ => .array .long
abbrev wsX120 : List Cond := u_ws RX12 TX12 63
theorem nmX12 : ∀ a, a < 63 → ∀ b, b < 63 → a ≠ b → (TX12 a).2.1 ≠ (TX12 b).2.1 := by decide +kernel
theorem tyX12_ok : ∀ k, k < 63 → parseFieldDescriptor (TX12 k).2.2.1 = some (tyX12 k) := by decide +kernel
abbrev cX12_init : ByteArray := prog_14_method_1_code
def yX12_init : MethodName := ⟨RX12, "<init>", "()V"⟩
abbrev cX12_isIn : ByteArray := prog_14_method_2_code
def yX12_isIn : MethodName := ⟨RX12, "isIn", "(JJJ)Z"⟩
abbrev cX12_begin : ByteArray := prog_14_method_3_code
def yX12_begin : MethodName := ⟨RX12, "begin", "(J)V"⟩
abbrev cX12_more : ByteArray := prog_14_method_4_code
def yX12_more : MethodName := ⟨RX12, "more", "(J)V"⟩
abbrev cX12_find : ByteArray := prog_14_method_5_code
def yX12_find : MethodName := ⟨RX12, "find", "(IJ)I"⟩
abbrev cX12_seal : ByteArray := prog_14_method_6_code
def yX12_seal : MethodName := ⟨RX12, "seal", "(IJ)I"⟩
abbrev cX12_isGood : ByteArray := prog_14_method_7_code
def yX12_isGood : MethodName := ⟨RX12, "isGood", "(IJJ)Z"⟩
abbrev cX12_lengthOf : ByteArray := prog_14_method_8_code
def yX12_lengthOf : MethodName := ⟨RX12, "lengthOf", "(I)I"⟩
abbrev cX12_has : ByteArray := prog_14_method_9_code
def yX12_has : MethodName := ⟨RX12, "has", "(II)Z"⟩
abbrev cX12_send : ByteArray := prog_14_method_10_code
def yX12_send : MethodName := ⟨RX12, "send", "(IIIII)Z"⟩
abbrev cX12_lie : ByteArray := prog_14_method_11_code
def yX12_lie : MethodName := ⟨RX12, "lie", "(IIIII)V"⟩
abbrev cX12_isMessage : ByteArray := prog_14_method_12_code
def yX12_isMessage : MethodName := ⟨RX12, "isMessage", "(I)Z"⟩
abbrev cX12_remove : ByteArray := prog_14_method_13_code
def yX12_remove : MethodName := ⟨RX12, "remove", "(I)V"⟩
abbrev cX12_read : ByteArray := prog_14_method_14_code
def yX12_read : MethodName := ⟨RX12, "read", "()I"⟩
abbrev cX12_deliver : ByteArray := prog_14_method_15_code
def yX12_deliver : MethodName := ⟨RX12, "deliver", "(I)I"⟩
abbrev cX12_writes : ByteArray := prog_14_method_16_code
def yX12_writes : MethodName := ⟨RX12, "writes", "(I)Z"⟩
abbrev cX12_reply : ByteArray := prog_14_method_17_code
def yX12_reply : MethodName := ⟨RX12, "reply", "(II)V"⟩
abbrev cX12_toCard : ByteArray := prog_14_method_18_code
def yX12_toCard : MethodName := ⟨RX12, "toCard", "(II)Z"⟩
abbrev cX12_typePin : ByteArray := prog_14_method_19_code
def yX12_typePin : MethodName := ⟨RX12, "typePin", "(I)V"⟩
abbrev cX12_answer : ByteArray := prog_14_method_20_code
def yX12_answer : MethodName := ⟨RX12, "answer", "(I)V"⟩
abbrev cX12_finish : ByteArray := prog_14_method_21_code
def yX12_finish : MethodName := ⟨RX12, "finish", "(I)V"⟩
abbrev cX12_end : ByteArray := prog_14_method_22_code
def yX12_end : MethodName := ⟨RX12, "end", "(II)V"⟩
abbrev cX12_toItsCard : ByteArray := prog_14_method_23_code
def yX12_toItsCard : MethodName := ⟨RX12, "toItsCard", "(III)V"⟩
abbrev cX12_ask : ByteArray := prog_14_method_24_code
def yX12_ask : MethodName := ⟨RX12, "ask", "(I)V"⟩
abbrev cX12_toTerminal : ByteArray := prog_14_method_25_code
def yX12_toTerminal : MethodName := ⟨RX12, "toTerminal", "(II)Z"⟩
abbrev cX12_takeCard : ByteArray := prog_14_method_26_code
def yX12_takeCard : MethodName := ⟨RX12, "takeCard", "(I)V"⟩
abbrev cX12_fill : ByteArray := prog_14_method_27_code
def yX12_fill : MethodName := ⟨RX12, "fill", "(IJJ)V"⟩
abbrev cX12_sign : ByteArray := prog_14_method_28_code
def yX12_sign : MethodName := ⟨RX12, "sign", "(II)V"⟩
abbrev cX12_takeAnswer : ByteArray := prog_14_method_29_code
def yX12_takeAnswer : MethodName := ⟨RX12, "takeAnswer", "(I)V"⟩
abbrev cX12_takeWord : ByteArray := prog_14_method_30_code
def yX12_takeWord : MethodName := ⟨RX12, "takeWord", "(I)Z"⟩
abbrev cX12_isSigned : ByteArray := prog_14_method_31_code
def yX12_isSigned : MethodName := ⟨RX12, "isSigned", "(I)Z"⟩
abbrev cX12_isAnswer : ByteArray := prog_14_method_32_code
def yX12_isAnswer : MethodName := ⟨RX12, "isAnswer", "(I)Z"⟩
abbrev cX12_debit : ByteArray := prog_14_method_33_code
def yX12_debit : MethodName := ⟨RX12, "debit", "(I)V"⟩
abbrev cX12_toHost : ByteArray := prog_14_method_34_code
def yX12_toHost : MethodName := ⟨RX12, "toHost", "(I)Z"⟩
abbrev cX12_card : ByteArray := prog_14_method_35_code
def yX12_card : MethodName := ⟨RX12, "card", "(IJIJ)I"⟩
abbrev cX12_terminal : ByteArray := prog_14_method_36_code
def yX12_terminal : MethodName := ⟨RX12, "terminal", "(JJ)I"⟩
abbrev cX12_purchase : ByteArray := prog_14_method_37_code
def yX12_purchase : MethodName := ⟨RX12, "purchase", "(IIJI)I"⟩
abbrev cX12_alter : ByteArray := prog_14_method_38_code
def yX12_alter : MethodName := ⟨RX12, "alter", "(III)Z"⟩
abbrev cX12_drop : ByteArray := prog_14_method_39_code
def yX12_drop : MethodName := ⟨RX12, "drop", "(I)Z"⟩
abbrev cX12_again : ByteArray := prog_14_method_40_code
def yX12_again : MethodName := ⟨RX12, "again", "(I)Z"⟩
abbrev cX12_put : ByteArray := prog_14_method_41_code
def yX12_put : MethodName := ⟨RX12, "put", "(I)I"⟩
abbrev cX12_isThere : ByteArray := prog_14_method_42_code
def yX12_isThere : MethodName := ⟨RX12, "isThere", "(II)Z"⟩
abbrev cX12_inject : ByteArray := prog_14_method_43_code
def yX12_inject : MethodName := ⟨RX12, "inject", "(IIII)Z"⟩
abbrev cX12_power : ByteArray := prog_14_method_44_code
def yX12_power : MethodName := ⟨RX12, "power", "(II)Z"⟩
abbrev cX12_tick : ByteArray := prog_14_method_45_code
def yX12_tick : MethodName := ⟨RX12, "tick", "(I)I"⟩
abbrev cX12_clear : ByteArray := prog_14_method_46_code
def yX12_clear : MethodName := ⟨RX12, "clear", "(I)I"⟩
abbrev cX12_count : ByteArray := prog_14_method_47_code
def yX12_count : MethodName := ⟨RX12, "count", "(I)I"⟩
abbrev cX12_outcome : ByteArray := prog_14_method_48_code
def yX12_outcome : MethodName := ⟨RX12, "outcome", "(I)I"⟩
abbrev cX12_told : ByteArray := prog_14_method_49_code
def yX12_told : MethodName := ⟨RX12, "told", "(II)I"⟩
abbrev cX12_account : ByteArray := prog_14_method_50_code
def yX12_account : MethodName := ⟨RX12, "account", "(I)J"⟩
abbrev cX12_debit_ : ByteArray := prog_14_method_51_code
def yX12_debit_ : MethodName := ⟨RX12, "debit", "(II)J"⟩
abbrev cX12_message : ByteArray := prog_14_method_52_code
def yX12_message : MethodName := ⟨RX12, "message", "(II)I"⟩
abbrev cX12_at : ByteArray := prog_14_method_53_code
def yX12_at : MethodName := ⟨RX12, "at", "(II)I"⟩
abbrev cX12_matched : ByteArray := prog_14_method_54_code
def yX12_matched : MethodName := ⟨RX12, "matched", "()Z"⟩
def RJx145de : String := "java/io/Serializable"
def TJx145de : u_T := fun k => match k with
  | _ => ("", "", "", false)
def tyJx145de : Nat → FieldType := fun k => match k with
  | _ => .int
abbrev wsJx145de0 : List Cond := u_ws RJx145de TJx145de 0
theorem nmJx145de : ∀ a, a < 0 → ∀ b, b < 0 → a ≠ b → (TJx145de a).2.1 ≠ (TJx145de b).2.1 := by decide +kernel
theorem tyJx145de_ok : ∀ k, k < 0 → parseFieldDescriptor (TJx145de k).2.2.1 = some (tyJx145de k) := by decide +kernel
def RJx8e188 : String := "java/lang/Cloneable"
def TJx8e188 : u_T := fun k => match k with
  | _ => ("", "", "", false)
def tyJx8e188 : Nat → FieldType := fun k => match k with
  | _ => .int
abbrev wsJx8e1880 : List Cond := u_ws RJx8e188 TJx8e188 0
theorem nmJx8e188 : ∀ a, a < 0 → ∀ b, b < 0 → a ≠ b → (TJx8e188 a).2.1 ≠ (TJx8e188 b).2.1 := by decide +kernel
theorem tyJx8e188_ok : ∀ k, k < 0 → parseFieldDescriptor (TJx8e188 k).2.2.1 = some (tyJx8e188 k) := by decide +kernel
def RJxab1ab : String := "java/lang/Iterable"
def TJxab1ab : u_T := fun k => match k with
  | _ => ("", "", "", false)
def tyJxab1ab : Nat → FieldType := fun k => match k with
  | _ => .int
abbrev wsJxab1ab0 : List Cond := u_ws RJxab1ab TJxab1ab 0
theorem nmJxab1ab : ∀ a, a < 0 → ∀ b, b < 0 → a ≠ b → (TJxab1ab a).2.1 ≠ (TJxab1ab b).2.1 := by decide +kernel
theorem tyJxab1ab_ok : ∀ k, k < 0 → parseFieldDescriptor (TJxab1ab k).2.2.1 = some (tyJxab1ab k) := by decide +kernel
def RJ9 : String := "java/lang/Math"
def TJ9 : u_T := fun k => match k with
  | _ => ("", "", "", false)
def tyJ9 : Nat → FieldType := fun k => match k with
  | _ => .int
abbrev wsJ90 : List Cond := u_ws RJ9 TJ9 0
theorem nmJ9 : ∀ a, a < 0 → ∀ b, b < 0 → a ≠ b → (TJ9 a).2.1 ≠ (TJ9 b).2.1 := by decide +kernel
theorem tyJ9_ok : ∀ k, k < 0 → parseFieldDescriptor (TJ9 k).2.2.1 = some (tyJ9 k) := by decide +kernel
abbrev cJ9_max_7cf53 : ByteArray := prog_18_method_65_code
def yJ9_max_7cf53 : MethodName := ⟨RJ9, "max", "(II)I"⟩
abbrev cJ9_min_7cf53 : ByteArray := prog_18_method_69_code
def yJ9_min_7cf53 : MethodName := ⟨RJ9, "min", "(II)I"⟩
def RJ10 : String := "java/lang/System"
def TJ10 : u_T := fun k => match k with
  | _ => ("", "", "", false)
def tyJ10 : Nat → FieldType := fun k => match k with
  | _ => .int
abbrev wsJ100 : List Cond := u_ws RJ10 TJ10 0
theorem nmJ10 : ∀ a, a < 0 → ∀ b, b < 0 → a ≠ b → (TJ10 a).2.1 ≠ (TJ10 b).2.1 := by decide +kernel
theorem tyJ10_ok : ∀ k, k < 0 → parseFieldDescriptor (TJ10 k).2.2.1 = some (tyJ10 k) := by decide +kernel
def RJxa1e45 : String := "java/util/AbstractCollection"
def TJxa1e45 : u_T := fun k => match k with
  | _ => ("", "", "", false)
def tyJxa1e45 : Nat → FieldType := fun k => match k with
  | _ => .int
abbrev wsJxa1e450 : List Cond := u_ws RJxa1e45 TJxa1e45 0
theorem nmJxa1e45 : ∀ a, a < 0 → ∀ b, b < 0 → a ≠ b → (TJxa1e45 a).2.1 ≠ (TJxa1e45 b).2.1 := by decide +kernel
theorem tyJxa1e45_ok : ∀ k, k < 0 → parseFieldDescriptor (TJxa1e45 k).2.2.1 = some (tyJxa1e45 k) := by decide +kernel
abbrev cJxa1e45_init_da8c8 : ByteArray := prog_20_method_1_code
def yJxa1e45_init_da8c8 : MethodName := ⟨RJxa1e45, "<init>", "()V"⟩
def RJxc12de : String := "java/util/AbstractList"
def TJxc12de : u_T := fun k => match k with
  | _ => ("", "", "", false)
def tyJxc12de : Nat → FieldType := fun k => match k with
  | _ => .int
abbrev wsJxc12de0 : List Cond := u_ws RJxc12de TJxc12de 0
theorem nmJxc12de : ∀ a, a < 0 → ∀ b, b < 0 → a ≠ b → (TJxc12de a).2.1 ≠ (TJxc12de b).2.1 := by decide +kernel
theorem tyJxc12de_ok : ∀ k, k < 0 → parseFieldDescriptor (TJxc12de k).2.2.1 = some (tyJxc12de k) := by decide +kernel
abbrev cJxc12de_init_da8c8 : ByteArray := prog_21_method_1_code
def yJxc12de_init_da8c8 : MethodName := ⟨RJxc12de, "<init>", "()V"⟩
def RJx4a65c : String := "java/util/ArrayList"
def TJx4a65c : u_T := fun k => match k with
  | 0 => ("java/util/AbstractList", "modCount", "I", false)
  | 1 => ("java/util/ArrayList", "elementData", "[Ljava/lang/Object;", false)
  | _ => ("java/util/ArrayList", "size", "I", false)
def tyJx4a65c : Nat → FieldType := fun k => match k with
  | 0 => .int
  | 1 => .array (.object "java/lang/Object")
  | _ => .int
abbrev wsJx4a65c0 : List Cond := u_ws RJx4a65c TJx4a65c 3
theorem nmJx4a65c : ∀ a, a < 3 → ∀ b, b < 3 → a ≠ b → (TJx4a65c a).2.1 ≠ (TJx4a65c b).2.1 := by decide +kernel
theorem tyJx4a65c_ok : ∀ k, k < 3 → parseFieldDescriptor (TJx4a65c k).2.2.1 = some (tyJx4a65c k) := by decide +kernel
abbrev cJx4a65c_init_da8c8 : ByteArray := prog_22_method_2_code
def yJx4a65c_init_da8c8 : MethodName := ⟨RJx4a65c, "<init>", "()V"⟩
abbrev cJx4a65c_grow_92f84 : ByteArray := prog_22_method_6_code
def yJx4a65c_grow_92f84 : MethodName := ⟨RJx4a65c, "grow", "(I)[Ljava/lang/Object;"⟩
abbrev cJx4a65c_grow_d5877 : ByteArray := prog_22_method_7_code
def yJx4a65c_grow_d5877 : MethodName := ⟨RJx4a65c, "grow", "()[Ljava/lang/Object;"⟩
abbrev cJx4a65c_size_8abf5 : ByteArray := prog_22_method_8_code
def yJx4a65c_size_8abf5 : MethodName := ⟨RJx4a65c, "size", "()I"⟩
abbrev cJx4a65c_elementData_915e3 : ByteArray := prog_22_method_18_code
def yJx4a65c_elementData_915e3 : MethodName := ⟨RJx4a65c, "elementData", "(I)Ljava/lang/Object;"⟩
abbrev cJx4a65c_get_915e3 : ByteArray := prog_22_method_20_code
def yJx4a65c_get_915e3 : MethodName := ⟨RJx4a65c, "get", "(I)Ljava/lang/Object;"⟩
abbrev cJx4a65c_add_72be8 : ByteArray := prog_22_method_24_code
def yJx4a65c_add_72be8 : MethodName := ⟨RJx4a65c, "add", "(Ljava/lang/Object;[Ljava/lang/Object;I)V"⟩
abbrev cJx4a65c_add_9ea2d : ByteArray := prog_22_method_25_code
def yJx4a65c_add_9ea2d : MethodName := ⟨RJx4a65c, "add", "(Ljava/lang/Object;)Z"⟩
abbrev cJx4a65c_clear_da8c8 : ByteArray := prog_22_method_40_code
def yJx4a65c_clear_da8c8 : MethodName := ⟨RJx4a65c, "clear", "()V"⟩
def RJ7 : String := "java/util/Arrays"
def TJ7 : u_T := fun k => match k with
  | _ => ("", "", "", false)
def tyJ7 : Nat → FieldType := fun k => match k with
  | _ => .int
abbrev wsJ70 : List Cond := u_ws RJ7 TJ7 0
theorem nmJ7 : ∀ a, a < 0 → ∀ b, b < 0 → a ≠ b → (TJ7 a).2.1 ≠ (TJ7 b).2.1 := by decide +kernel
theorem tyJ7_ok : ∀ k, k < 0 → parseFieldDescriptor (TJ7 k).2.2.1 = some (tyJ7 k) := by decide +kernel
abbrev cJ7_copyOf_1904c : ByteArray := prog_23_method_119_code
def yJ7_copyOf_1904c : MethodName := ⟨RJ7, "copyOf", "([Ljava/lang/Object;I)[Ljava/lang/Object;"⟩
abbrev cJ7_copyOf_6403c : ByteArray := prog_23_method_120_code
def yJ7_copyOf_6403c : MethodName := ⟨RJ7, "copyOf", "([Ljava/lang/Object;ILjava/lang/Class;)[Ljava/lang/Object;"⟩
abbrev cJ7_copyOf_c38d5 : ByteArray := prog_23_method_124_code
def yJ7_copyOf_c38d5 : MethodName := ⟨RJ7, "copyOf", "([JI)[J"⟩
def RJx5ef63 : String := "java/util/Collection"
def TJx5ef63 : u_T := fun k => match k with
  | _ => ("", "", "", false)
def tyJx5ef63 : Nat → FieldType := fun k => match k with
  | _ => .int
abbrev wsJx5ef630 : List Cond := u_ws RJx5ef63 TJx5ef63 0
theorem nmJx5ef63 : ∀ a, a < 0 → ∀ b, b < 0 → a ≠ b → (TJx5ef63 a).2.1 ≠ (TJx5ef63 b).2.1 := by decide +kernel
theorem tyJx5ef63_ok : ∀ k, k < 0 → parseFieldDescriptor (TJx5ef63 k).2.2.1 = some (tyJx5ef63 k) := by decide +kernel
def RJxbd725 : String := "java/util/List"
def TJxbd725 : u_T := fun k => match k with
  | _ => ("", "", "", false)
def tyJxbd725 : Nat → FieldType := fun k => match k with
  | _ => .int
abbrev wsJxbd7250 : List Cond := u_ws RJxbd725 TJxbd725 0
theorem nmJxbd725 : ∀ a, a < 0 → ∀ b, b < 0 → a ≠ b → (TJxbd725 a).2.1 ≠ (TJxbd725 b).2.1 := by decide +kernel
theorem tyJxbd725_ok : ∀ k, k < 0 → parseFieldDescriptor (TJxbd725 k).2.2.1 = some (tyJxbd725 k) := by decide +kernel
def RJ15 : String := "java/util/Objects"
def TJ15 : u_T := fun k => match k with
  | _ => ("", "", "", false)
def tyJ15 : Nat → FieldType := fun k => match k with
  | _ => .int
abbrev wsJ150 : List Cond := u_ws RJ15 TJ15 0
theorem nmJ15 : ∀ a, a < 0 → ∀ b, b < 0 → a ≠ b → (TJ15 a).2.1 ≠ (TJ15 b).2.1 := by decide +kernel
theorem tyJ15_ok : ∀ k, k < 0 → parseFieldDescriptor (TJ15 k).2.2.1 = some (tyJ15 k) := by decide +kernel
abbrev cJ15_checkIndex_7cf53 : ByteArray := prog_26_method_17_code
def yJ15_checkIndex_7cf53 : MethodName := ⟨RJ15, "checkIndex", "(II)I"⟩
def RJxf0a74 : String := "java/util/RandomAccess"
def TJxf0a74 : u_T := fun k => match k with
  | _ => ("", "", "", false)
def tyJxf0a74 : Nat → FieldType := fun k => match k with
  | _ => .int
abbrev wsJxf0a740 : List Cond := u_ws RJxf0a74 TJxf0a74 0
theorem nmJxf0a74 : ∀ a, a < 0 → ∀ b, b < 0 → a ≠ b → (TJxf0a74 a).2.1 ≠ (TJxf0a74 b).2.1 := by decide +kernel
theorem tyJxf0a74_ok : ∀ k, k < 0 → parseFieldDescriptor (TJxf0a74 k).2.2.1 = some (tyJxf0a74 k) := by decide +kernel
def RJxa66e6 : String := "java/util/SequencedCollection"
def TJxa66e6 : u_T := fun k => match k with
  | _ => ("", "", "", false)
def tyJxa66e6 : Nat → FieldType := fun k => match k with
  | _ => .int
abbrev wsJxa66e60 : List Cond := u_ws RJxa66e6 TJxa66e6 0
theorem nmJxa66e6 : ∀ a, a < 0 → ∀ b, b < 0 → a ≠ b → (TJxa66e6 a).2.1 ≠ (TJxa66e6 b).2.1 := by decide +kernel
theorem tyJxa66e6_ok : ∀ k, k < 0 → parseFieldDescriptor (TJxa66e6 k).2.2.1 = some (tyJxa66e6 k) := by decide +kernel
def RJ8 : String := "jdk/internal/util/ArraysSupport"
def TJ8 : u_T := fun k => match k with
  | _ => ("", "", "", false)
def tyJ8 : Nat → FieldType := fun k => match k with
  | _ => .int
abbrev wsJ80 : List Cond := u_ws RJ8 TJ8 0
theorem nmJ8 : ∀ a, a < 0 → ∀ b, b < 0 → a ≠ b → (TJ8 a).2.1 ≠ (TJ8 b).2.1 := by decide +kernel
theorem tyJ8_ok : ∀ k, k < 0 → parseFieldDescriptor (TJ8 k).2.2.1 = some (tyJ8 k) := by decide +kernel
abbrev cJ8_newLength_cabcc : ByteArray := prog_29_method_27_code
def yJ8_newLength_cabcc : MethodName := ⟨RJ8, "newLength", "(III)I"⟩
abbrev cJ8_hugeLength_7cf53 : ByteArray := prog_29_method_28_code
def yJ8_hugeLength_7cf53 : MethodName := ⟨RJ8, "hugeLength", "(II)I"⟩
def RJ3 : String := "jdk/internal/util/Preconditions"
def TJ3 : u_T := fun k => match k with
  | _ => ("", "", "", false)
def tyJ3 : Nat → FieldType := fun k => match k with
  | _ => .int
abbrev wsJ30 : List Cond := u_ws RJ3 TJ3 0
theorem nmJ3 : ∀ a, a < 0 → ∀ b, b < 0 → a ≠ b → (TJ3 a).2.1 ≠ (TJ3 b).2.1 := by decide +kernel
theorem tyJ3_ok : ∀ k, k < 0 → parseFieldDescriptor (TJ3 k).2.2.1 = some (tyJ3 k) := by decide +kernel
abbrev cJ3_checkIndex_8e157 : ByteArray := prog_30_method_11_code
def yJ3_checkIndex_8e157 : MethodName := ⟨RJ3, "checkIndex", "(IILjava/util/function/BiFunction;)I"⟩
def RL : String := "CardPaymentsLaw"
abbrev cL_law : ByteArray := code
def yL_law : MethodName := ⟨RL, "law", "([I)Z"⟩
abbrev vwCl : List vw_C := [(RJx4a65c, TJx4a65c, 3), (RX0, TX0, 2), (RX1, TX1, 12), (RX2, TX2, 4), (RX3, TX3, 3), (RX4, TX4, 6), (RX5, TX5, 8), (RX6, TX6, 3), (RX7, TX7, 5), (RX8, TX8, 14), (RX9, TX9, 2), (RX10, TX10, 8), (RX11, TX11, 4), (RX12, TX12, 63)]
end
section
theorem dX0_init_0 : decode cX0_init 0 = .ok (.aload_n 0, 1) := by decide +kernel
theorem dX0_init_1 : decode cX0_init 1 = .ok (.invokespecial 1, 3) := by decide +kernel
theorem dX0_init_4 : decode cX0_init 4 = .ok (.aload_n 0, 1) := by decide +kernel
theorem dX0_init_5 : decode cX0_init 5 = .ok (.lload_n 1, 1) := by decide +kernel
theorem dX0_init_6 : decode cX0_init 6 = .ok (.putfield 7, 3) := by decide +kernel
theorem dX0_init_9 : decode cX0_init 9 = .ok (.return_, 1) := by decide +kernel
theorem dX1_init_0 : decode cX1_init 0 = .ok (.aload_n 0, 1) := by decide +kernel
theorem dX1_init_1 : decode cX1_init 1 = .ok (.invokespecial 3, 3) := by decide +kernel
theorem dX1_init_4 : decode cX1_init 4 = .ok (.aload_n 0, 1) := by decide +kernel
theorem dX1_init_5 : decode cX1_init 5 = .ok (.iconst 3, 1) := by decide +kernel
theorem dX1_init_6 : decode cX1_init 6 = .ok (.putfield 9, 3) := by decide +kernel
theorem dX1_init_9 : decode cX1_init 9 = .ok (.aload_n 0, 1) := by decide +kernel
theorem dX1_init_10 : decode cX1_init 10 = .ok (.iconst (-1), 1) := by decide +kernel
theorem dX1_init_11 : decode cX1_init 11 = .ok (.putfield 15, 3) := by decide +kernel
theorem dX1_init_14 : decode cX1_init 14 = .ok (.aload_n 0, 1) := by decide +kernel
theorem dX1_init_15 : decode cX1_init 15 = .ok (.new 18, 3) := by decide +kernel
theorem dX1_init_18 : decode cX1_init 18 = .ok (.dup, 1) := by decide +kernel
theorem dX1_init_19 : decode cX1_init 19 = .ok (.invokespecial 20, 3) := by decide +kernel
theorem dX1_init_22 : decode cX1_init 22 = .ok (.putfield 21, 3) := by decide +kernel
theorem dX1_init_25 : decode cX1_init 25 = .ok (.aload_n 0, 1) := by decide +kernel
theorem dX1_init_26 : decode cX1_init 26 = .ok (.aload_n 1, 1) := by decide +kernel
theorem dX1_init_27 : decode cX1_init 27 = .ok (.putfield 25, 3) := by decide +kernel
theorem dX1_init_30 : decode cX1_init 30 = .ok (.aload_n 0, 1) := by decide +kernel
theorem dX1_init_31 : decode cX1_init 31 = .ok (.iload_n 2, 1) := by decide +kernel
theorem dX1_init_32 : decode cX1_init 32 = .ok (.putfield 29, 3) := by decide +kernel
theorem dX1_init_35 : decode cX1_init 35 = .ok (.aload_n 0, 1) := by decide +kernel
theorem dX1_init_36 : decode cX1_init 36 = .ok (.iload_n 3, 1) := by decide +kernel
theorem dX1_init_37 : decode cX1_init 37 = .ok (.putfield 32, 3) := by decide +kernel
theorem dX1_init_40 : decode cX1_init 40 = .ok (.aload_n 0, 1) := by decide +kernel
theorem dX1_init_41 : decode cX1_init 41 = .ok (.lload 4, 2) := by decide +kernel
theorem dX1_init_43 : decode cX1_init 43 = .ok (.putfield 35, 3) := by decide +kernel
theorem dX1_init_46 : decode cX1_init 46 = .ok (.aload_n 0, 1) := by decide +kernel
theorem dX1_init_47 : decode cX1_init 47 = .ok (.iload 6, 2) := by decide +kernel
theorem dX1_init_49 : decode cX1_init 49 = .ok (.putfield 39, 3) := by decide +kernel
theorem dX1_init_52 : decode cX1_init 52 = .ok (.return_, 1) := by decide +kernel
theorem dX1_takes_0 : decode cX1_takes 0 = .ok (.aload_n 1, 1) := by decide +kernel
theorem dX1_takes_1 : decode cX1_takes 1 = .ok (.getfield 42, 3) := by decide +kernel
theorem dX1_takes_4 : decode cX1_takes 4 = .ok (.tableswitch 76 1 9 #[52, 76, 58, 76, 64, 76, 76, 76, 70], 52) := by decide +kernel
theorem dX1_takes_56 : decode cX1_takes 56 = .ok (.aload_n 0, 1) := by decide +kernel
theorem dX1_takes_57 : decode cX1_takes 57 = .ok (.aload_n 1, 1) := by decide +kernel
theorem dX1_takes_58 : decode cX1_takes 58 = .ok (.invokevirtual 47, 3) := by decide +kernel
theorem dX1_takes_61 : decode cX1_takes 61 = .ok (.ireturn, 1) := by decide +kernel
theorem dX1_takes_62 : decode cX1_takes 62 = .ok (.aload_n 0, 1) := by decide +kernel
theorem dX1_takes_63 : decode cX1_takes 63 = .ok (.aload_n 1, 1) := by decide +kernel
theorem dX1_takes_64 : decode cX1_takes 64 = .ok (.invokevirtual 51, 3) := by decide +kernel
theorem dX1_takes_67 : decode cX1_takes 67 = .ok (.ireturn, 1) := by decide +kernel
theorem dX1_takes_68 : decode cX1_takes 68 = .ok (.aload_n 0, 1) := by decide +kernel
theorem dX1_takes_69 : decode cX1_takes 69 = .ok (.aload_n 1, 1) := by decide +kernel
theorem dX1_takes_70 : decode cX1_takes 70 = .ok (.invokevirtual 54, 3) := by decide +kernel
theorem dX1_takes_73 : decode cX1_takes 73 = .ok (.ireturn, 1) := by decide +kernel
theorem dX1_takes_74 : decode cX1_takes 74 = .ok (.aload_n 0, 1) := by decide +kernel
theorem dX1_takes_75 : decode cX1_takes 75 = .ok (.aload_n 1, 1) := by decide +kernel
theorem dX1_takes_76 : decode cX1_takes 76 = .ok (.invokevirtual 57, 3) := by decide +kernel
theorem dX1_takes_79 : decode cX1_takes 79 = .ok (.ireturn, 1) := by decide +kernel
theorem dX1_takes_80 : decode cX1_takes 80 = .ok (.iconst 0, 1) := by decide +kernel
theorem dX1_takes_81 : decode cX1_takes 81 = .ok (.ireturn, 1) := by decide +kernel
theorem dX1_takesBegin_0 : decode cX1_takesBegin 0 = .ok (.aload_n 0, 1) := by decide +kernel
theorem dX1_takesBegin_1 : decode cX1_takesBegin 1 = .ok (.getfield 60, 3) := by decide +kernel
theorem dX1_takesBegin_4 : decode cX1_takesBegin 4 = .ok (.ldc 63, 2) := by decide +kernel
theorem dX1_takesBegin_6 : decode cX1_takesBegin 6 = .ok (.if_icmp .lt 5, 3) := by decide +kernel
theorem dX1_takesBegin_9 : decode cX1_takesBegin 9 = .ok (.iconst 0, 1) := by decide +kernel
theorem dX1_takesBegin_10 : decode cX1_takesBegin 10 = .ok (.ireturn, 1) := by decide +kernel
theorem dX1_takesBegin_11 : decode cX1_takesBegin 11 = .ok (.aload_n 0, 1) := by decide +kernel
theorem dX1_takesBegin_12 : decode cX1_takesBegin 12 = .ok (.invokevirtual 64, 3) := by decide +kernel
theorem dX1_takesBegin_15 : decode cX1_takesBegin 15 = .ok (.ifCond .eq 5, 3) := by decide +kernel
theorem dX1_takesBegin_18 : decode cX1_takesBegin 18 = .ok (.iconst 1, 1) := by decide +kernel
theorem dX1_takesBegin_19 : decode cX1_takesBegin 19 = .ok (.ireturn, 1) := by decide +kernel
theorem dX1_takesBegin_20 : decode cX1_takesBegin 20 = .ok (.aload_n 0, 1) := by decide +kernel
theorem dX1_takesBegin_21 : decode cX1_takesBegin 21 = .ok (.dup, 1) := by decide +kernel
theorem dX1_takesBegin_22 : decode cX1_takesBegin 22 = .ok (.getfield 60, 3) := by decide +kernel
theorem dX1_takesBegin_25 : decode cX1_takesBegin 25 = .ok (.iconst 1, 1) := by decide +kernel
theorem dX1_takesBegin_26 : decode cX1_takesBegin 26 = .ok (.iadd, 1) := by decide +kernel
theorem dX1_takesBegin_27 : decode cX1_takesBegin 27 = .ok (.putfield 60, 3) := by decide +kernel
theorem dX1_takesBegin_30 : decode cX1_takesBegin 30 = .ok (.aload_n 0, 1) := by decide +kernel
theorem dX1_takesBegin_31 : decode cX1_takesBegin 31 = .ok (.iconst 1, 1) := by decide +kernel
theorem dX1_takesBegin_32 : decode cX1_takesBegin 32 = .ok (.putfield 68, 3) := by decide +kernel
theorem dX1_takesBegin_35 : decode cX1_takesBegin 35 = .ok (.aload_n 0, 1) := by decide +kernel
theorem dX1_takesBegin_36 : decode cX1_takesBegin 36 = .ok (.iconst 0, 1) := by decide +kernel
theorem dX1_takesBegin_37 : decode cX1_takesBegin 37 = .ok (.putfield 71, 3) := by decide +kernel
theorem dX1_takesBegin_40 : decode cX1_takesBegin 40 = .ok (.aload_n 0, 1) := by decide +kernel
theorem dX1_takesBegin_41 : decode cX1_takesBegin 41 = .ok (.getfield 25, 3) := by decide +kernel
theorem dX1_takesBegin_44 : decode cX1_takesBegin 44 = .ok (.getfield 74, 3) := by decide +kernel
theorem dX1_takesBegin_47 : decode cX1_takesBegin 47 = .ok (.getfield 80, 3) := by decide +kernel
theorem dX1_takesBegin_50 : decode cX1_takesBegin 50 = .ok (.iconst 1, 1) := by decide +kernel
theorem dX1_takesBegin_51 : decode cX1_takesBegin 51 = .ok (.aload_n 0, 1) := by decide +kernel
theorem dX1_takesBegin_52 : decode cX1_takesBegin 52 = .ok (.getfield 29, 3) := by decide +kernel
theorem dX1_takesBegin_55 : decode cX1_takesBegin 55 = .ok (.i2l, 1) := by decide +kernel
theorem dX1_takesBegin_56 : decode cX1_takesBegin 56 = .ok (.lastore, 1) := by decide +kernel
theorem dX1_takesBegin_57 : decode cX1_takesBegin 57 = .ok (.aload_n 0, 1) := by decide +kernel
theorem dX1_takesBegin_58 : decode cX1_takesBegin 58 = .ok (.getfield 25, 3) := by decide +kernel
theorem dX1_takesBegin_61 : decode cX1_takesBegin 61 = .ok (.getfield 74, 3) := by decide +kernel
theorem dX1_takesBegin_64 : decode cX1_takesBegin 64 = .ok (.getfield 80, 3) := by decide +kernel
theorem dX1_takesBegin_67 : decode cX1_takesBegin 67 = .ok (.iconst 2, 1) := by decide +kernel
theorem dX1_takesBegin_68 : decode cX1_takesBegin 68 = .ok (.aload_n 0, 1) := by decide +kernel
theorem dX1_takesBegin_69 : decode cX1_takesBegin 69 = .ok (.getfield 60, 3) := by decide +kernel
theorem dX1_takesBegin_72 : decode cX1_takesBegin 72 = .ok (.i2l, 1) := by decide +kernel
theorem dX1_takesBegin_73 : decode cX1_takesBegin 73 = .ok (.lastore, 1) := by decide +kernel
theorem dX1_takesBegin_74 : decode cX1_takesBegin 74 = .ok (.aload_n 0, 1) := by decide +kernel
theorem dX1_takesBegin_75 : decode cX1_takesBegin 75 = .ok (.getfield 25, 3) := by decide +kernel
theorem dX1_takesBegin_78 : decode cX1_takesBegin 78 = .ok (.getfield 74, 3) := by decide +kernel
theorem dX1_takesBegin_81 : decode cX1_takesBegin 81 = .ok (.getfield 80, 3) := by decide +kernel
theorem dX1_takesBegin_84 : decode cX1_takesBegin 84 = .ok (.bipush 8, 2) := by decide +kernel
theorem dX1_takesBegin_86 : decode cX1_takesBegin 86 = .ok (.aload_n 0, 1) := by decide +kernel
theorem dX1_takesBegin_87 : decode cX1_takesBegin 87 = .ok (.getfield 25, 3) := by decide +kernel
theorem dX1_takesBegin_90 : decode cX1_takesBegin 90 = .ok (.getfield 84, 3) := by decide +kernel
theorem dX1_takesBegin_93 : decode cX1_takesBegin 93 = .ok (.aload_n 0, 1) := by decide +kernel
theorem dX1_takesBegin_94 : decode cX1_takesBegin 94 = .ok (.getfield 29, 3) := by decide +kernel
theorem dX1_takesBegin_97 : decode cX1_takesBegin 97 = .ok (.aload_n 0, 1) := by decide +kernel
theorem dX1_takesBegin_98 : decode cX1_takesBegin 98 = .ok (.getfield 60, 3) := by decide +kernel
theorem dX1_takesBegin_101 : decode cX1_takesBegin 101 = .ok (.aload_n 1, 1) := by decide +kernel
theorem dX1_takesBegin_102 : decode cX1_takesBegin 102 = .ok (.getfield 80, 3) := by decide +kernel
theorem dX1_takesBegin_105 : decode cX1_takesBegin 105 = .ok (.iconst 4, 1) := by decide +kernel
theorem dX1_takesBegin_106 : decode cX1_takesBegin 106 = .ok (.laload, 1) := by decide +kernel
theorem dX1_takesBegin_107 : decode cX1_takesBegin 107 = .ok (.invokevirtual 88, 3) := by decide +kernel
theorem dX1_takesBegin_110 : decode cX1_takesBegin 110 = .ok (.invokevirtual 94, 3) := by decide +kernel
theorem dX1_takesBegin_113 : decode cX1_takesBegin 113 = .ok (.lastore, 1) := by decide +kernel
theorem dX1_takesBegin_114 : decode cX1_takesBegin 114 = .ok (.aload_n 0, 1) := by decide +kernel
theorem dX1_takesBegin_115 : decode cX1_takesBegin 115 = .ok (.aload_n 1, 1) := by decide +kernel
theorem dX1_takesBegin_116 : decode cX1_takesBegin 116 = .ok (.iconst 2, 1) := by decide +kernel
theorem dX1_takesBegin_117 : decode cX1_takesBegin 117 = .ok (.invokevirtual 98, 3) := by decide +kernel
theorem dX1_takesBegin_120 : decode cX1_takesBegin 120 = .ok (.iconst 1, 1) := by decide +kernel
theorem dX1_takesBegin_121 : decode cX1_takesBegin 121 = .ok (.ireturn, 1) := by decide +kernel
theorem dX1_takesPin_0 : decode cX1_takesPin 0 = .ok (.aload_n 0, 1) := by decide +kernel
theorem dX1_takesPin_1 : decode cX1_takesPin 1 = .ok (.getfield 68, 3) := by decide +kernel
theorem dX1_takesPin_4 : decode cX1_takesPin 4 = .ok (.iconst 1, 1) := by decide +kernel
theorem dX1_takesPin_5 : decode cX1_takesPin 5 = .ok (.if_icmp .eq 5, 3) := by decide +kernel
theorem dX1_takesPin_8 : decode cX1_takesPin 8 = .ok (.iconst 0, 1) := by decide +kernel
theorem dX1_takesPin_9 : decode cX1_takesPin 9 = .ok (.ireturn, 1) := by decide +kernel
theorem dX1_takesPin_10 : decode cX1_takesPin 10 = .ok (.aload_n 0, 1) := by decide +kernel
theorem dX1_takesPin_11 : decode cX1_takesPin 11 = .ok (.getfield 9, 3) := by decide +kernel
theorem dX1_takesPin_14 : decode cX1_takesPin 14 = .ok (.ifCond .ne 12, 3) := by decide +kernel
theorem dX1_takesPin_17 : decode cX1_takesPin 17 = .ok (.aload_n 0, 1) := by decide +kernel
theorem dX1_takesPin_18 : decode cX1_takesPin 18 = .ok (.aload_n 1, 1) := by decide +kernel
theorem dX1_takesPin_19 : decode cX1_takesPin 19 = .ok (.iconst 2, 1) := by decide +kernel
theorem dX1_takesPin_20 : decode cX1_takesPin 20 = .ok (.iconst 2, 1) := by decide +kernel
theorem dX1_takesPin_21 : decode cX1_takesPin 21 = .ok (.invokevirtual 102, 3) := by decide +kernel
theorem dX1_takesPin_24 : decode cX1_takesPin 24 = .ok (.iconst 1, 1) := by decide +kernel
theorem dX1_takesPin_25 : decode cX1_takesPin 25 = .ok (.ireturn, 1) := by decide +kernel
theorem dX1_takesPin_26 : decode cX1_takesPin 26 = .ok (.aload_n 0, 1) := by decide +kernel
theorem dX1_takesPin_27 : decode cX1_takesPin 27 = .ok (.invokevirtual 64, 3) := by decide +kernel
theorem dX1_takesPin_30 : decode cX1_takesPin 30 = .ok (.ifCond .eq 5, 3) := by decide +kernel
theorem dX1_takesPin_33 : decode cX1_takesPin 33 = .ok (.iconst 1, 1) := by decide +kernel
theorem dX1_takesPin_34 : decode cX1_takesPin 34 = .ok (.ireturn, 1) := by decide +kernel
theorem dX1_takesPin_35 : decode cX1_takesPin 35 = .ok (.aload_n 0, 1) := by decide +kernel
theorem dX1_takesPin_36 : decode cX1_takesPin 36 = .ok (.dup, 1) := by decide +kernel
theorem dX1_takesPin_37 : decode cX1_takesPin 37 = .ok (.getfield 9, 3) := by decide +kernel
theorem dX1_takesPin_40 : decode cX1_takesPin 40 = .ok (.iconst 1, 1) := by decide +kernel
theorem dX1_takesPin_41 : decode cX1_takesPin 41 = .ok (.isub, 1) := by decide +kernel
theorem dX1_takesPin_42 : decode cX1_takesPin 42 = .ok (.putfield 9, 3) := by decide +kernel
theorem dX1_takesPin_45 : decode cX1_takesPin 45 = .ok (.aload_n 1, 1) := by decide +kernel
theorem dX1_takesPin_46 : decode cX1_takesPin 46 = .ok (.getfield 80, 3) := by decide +kernel
theorem dX1_takesPin_49 : decode cX1_takesPin 49 = .ok (.bipush 9, 2) := by decide +kernel
theorem dX1_takesPin_51 : decode cX1_takesPin 51 = .ok (.laload, 1) := by decide +kernel
theorem dX1_takesPin_52 : decode cX1_takesPin 52 = .ok (.aload_n 0, 1) := by decide +kernel
theorem dX1_takesPin_53 : decode cX1_takesPin 53 = .ok (.getfield 32, 3) := by decide +kernel
theorem dX1_takesPin_56 : decode cX1_takesPin 56 = .ok (.i2l, 1) := by decide +kernel
theorem dX1_takesPin_57 : decode cX1_takesPin 57 = .ok (.lcmp, 1) := by decide +kernel
theorem dX1_takesPin_58 : decode cX1_takesPin 58 = .ok (.ifCond .eq 12, 3) := by decide +kernel
theorem dX1_takesPin_61 : decode cX1_takesPin 61 = .ok (.aload_n 0, 1) := by decide +kernel
theorem dX1_takesPin_62 : decode cX1_takesPin 62 = .ok (.aload_n 1, 1) := by decide +kernel
theorem dX1_takesPin_63 : decode cX1_takesPin 63 = .ok (.iconst 2, 1) := by decide +kernel
theorem dX1_takesPin_64 : decode cX1_takesPin 64 = .ok (.iconst 0, 1) := by decide +kernel
theorem dX1_takesPin_65 : decode cX1_takesPin 65 = .ok (.invokevirtual 102, 3) := by decide +kernel
theorem dX1_takesPin_68 : decode cX1_takesPin 68 = .ok (.iconst 1, 1) := by decide +kernel
theorem dX1_takesPin_69 : decode cX1_takesPin 69 = .ok (.ireturn, 1) := by decide +kernel
theorem dX1_takesPin_70 : decode cX1_takesPin 70 = .ok (.aload_n 0, 1) := by decide +kernel
theorem dX1_takesPin_71 : decode cX1_takesPin 71 = .ok (.invokevirtual 64, 3) := by decide +kernel
theorem dX1_takesPin_74 : decode cX1_takesPin 74 = .ok (.ifCond .eq 5, 3) := by decide +kernel
theorem dX1_takesPin_77 : decode cX1_takesPin 77 = .ok (.iconst 1, 1) := by decide +kernel
theorem dX1_takesPin_78 : decode cX1_takesPin 78 = .ok (.ireturn, 1) := by decide +kernel
theorem dX1_takesPin_79 : decode cX1_takesPin 79 = .ok (.aload_n 0, 1) := by decide +kernel
theorem dX1_takesPin_80 : decode cX1_takesPin 80 = .ok (.iconst 3, 1) := by decide +kernel
theorem dX1_takesPin_81 : decode cX1_takesPin 81 = .ok (.putfield 9, 3) := by decide +kernel
theorem dX1_takesPin_84 : decode cX1_takesPin 84 = .ok (.aload_n 0, 1) := by decide +kernel
theorem dX1_takesPin_85 : decode cX1_takesPin 85 = .ok (.aload_n 1, 1) := by decide +kernel
theorem dX1_takesPin_86 : decode cX1_takesPin 86 = .ok (.iconst 1, 1) := by decide +kernel
theorem dX1_takesPin_87 : decode cX1_takesPin 87 = .ok (.iconst 1, 1) := by decide +kernel
theorem dX1_takesPin_88 : decode cX1_takesPin 88 = .ok (.invokevirtual 102, 3) := by decide +kernel
theorem dX1_takesPin_91 : decode cX1_takesPin 91 = .ok (.iconst 1, 1) := by decide +kernel
theorem dX1_takesPin_92 : decode cX1_takesPin 92 = .ok (.ireturn, 1) := by decide +kernel
theorem dX1_replyPinned_0 : decode cX1_replyPinned 0 = .ok (.aload_n 0, 1) := by decide +kernel
theorem dX1_replyPinned_1 : decode cX1_replyPinned 1 = .ok (.iload_n 2, 1) := by decide +kernel
theorem dX1_replyPinned_2 : decode cX1_replyPinned 2 = .ok (.putfield 71, 3) := by decide +kernel
theorem dX1_replyPinned_5 : decode cX1_replyPinned 5 = .ok (.aload_n 0, 1) := by decide +kernel
theorem dX1_replyPinned_6 : decode cX1_replyPinned 6 = .ok (.getfield 25, 3) := by decide +kernel
theorem dX1_replyPinned_9 : decode cX1_replyPinned 9 = .ok (.getfield 74, 3) := by decide +kernel
theorem dX1_replyPinned_12 : decode cX1_replyPinned 12 = .ok (.getfield 80, 3) := by decide +kernel
theorem dX1_replyPinned_15 : decode cX1_replyPinned 15 = .ok (.bipush 6, 2) := by decide +kernel
theorem dX1_replyPinned_17 : decode cX1_replyPinned 17 = .ok (.iload_n 3, 1) := by decide +kernel
theorem dX1_replyPinned_18 : decode cX1_replyPinned 18 = .ok (.i2l, 1) := by decide +kernel
theorem dX1_replyPinned_19 : decode cX1_replyPinned 19 = .ok (.lastore, 1) := by decide +kernel
theorem dX1_replyPinned_20 : decode cX1_replyPinned 20 = .ok (.aload_n 0, 1) := by decide +kernel
theorem dX1_replyPinned_21 : decode cX1_replyPinned 21 = .ok (.aload_n 1, 1) := by decide +kernel
theorem dX1_replyPinned_22 : decode cX1_replyPinned 22 = .ok (.iconst 4, 1) := by decide +kernel
theorem dX1_replyPinned_23 : decode cX1_replyPinned 23 = .ok (.invokevirtual 98, 3) := by decide +kernel
theorem dX1_replyPinned_26 : decode cX1_replyPinned 26 = .ok (.return_, 1) := by decide +kernel
theorem dX1_takesAsk_0 : decode cX1_takesAsk 0 = .ok (.aload_n 0, 1) := by decide +kernel
theorem dX1_takesAsk_1 : decode cX1_takesAsk 1 = .ok (.getfield 68, 3) := by decide +kernel
theorem dX1_takesAsk_4 : decode cX1_takesAsk 4 = .ok (.iconst 1, 1) := by decide +kernel
theorem dX1_takesAsk_5 : decode cX1_takesAsk 5 = .ok (.if_icmp .eq 5, 3) := by decide +kernel
theorem dX1_takesAsk_8 : decode cX1_takesAsk 8 = .ok (.iconst 0, 1) := by decide +kernel
theorem dX1_takesAsk_9 : decode cX1_takesAsk 9 = .ok (.ireturn, 1) := by decide +kernel
theorem dX1_takesAsk_10 : decode cX1_takesAsk 10 = .ok (.aload_n 0, 1) := by decide +kernel
theorem dX1_takesAsk_11 : decode cX1_takesAsk 11 = .ok (.aload_n 1, 1) := by decide +kernel
theorem dX1_takesAsk_12 : decode cX1_takesAsk 12 = .ok (.bipush 7, 2) := by decide +kernel
theorem dX1_takesAsk_14 : decode cX1_takesAsk 14 = .ok (.invokevirtual 106, 3) := by decide +kernel
theorem dX1_takesAsk_17 : decode cX1_takesAsk 17 = .ok (.aload_n 1, 1) := by decide +kernel
theorem dX1_takesAsk_18 : decode cX1_takesAsk 18 = .ok (.getfield 80, 3) := by decide +kernel
theorem dX1_takesAsk_21 : decode cX1_takesAsk 21 = .ok (.iconst 3, 1) := by decide +kernel
theorem dX1_takesAsk_22 : decode cX1_takesAsk 22 = .ok (.laload, 1) := by decide +kernel
theorem dX1_takesAsk_23 : decode cX1_takesAsk 23 = .ok (.invokevirtual 110, 3) := by decide +kernel
theorem dX1_takesAsk_26 : decode cX1_takesAsk 26 = .ok (.istore_n 2, 1) := by decide +kernel
theorem dX1_takesAsk_27 : decode cX1_takesAsk 27 = .ok (.iload_n 2, 1) := by decide +kernel
theorem dX1_takesAsk_28 : decode cX1_takesAsk 28 = .ok (.iconst 2, 1) := by decide +kernel
theorem dX1_takesAsk_29 : decode cX1_takesAsk 29 = .ok (.if_icmp .ne 22, 3) := by decide +kernel
theorem dX1_takesAsk_32 : decode cX1_takesAsk 32 = .ok (.aload_n 0, 1) := by decide +kernel
theorem dX1_takesAsk_33 : decode cX1_takesAsk 33 = .ok (.invokevirtual 64, 3) := by decide +kernel
theorem dX1_takesAsk_36 : decode cX1_takesAsk 36 = .ok (.ifCond .eq 5, 3) := by decide +kernel
theorem dX1_takesAsk_39 : decode cX1_takesAsk 39 = .ok (.iconst 1, 1) := by decide +kernel
theorem dX1_takesAsk_40 : decode cX1_takesAsk 40 = .ok (.ireturn, 1) := by decide +kernel
theorem dX1_takesAsk_41 : decode cX1_takesAsk 41 = .ok (.aload_n 0, 1) := by decide +kernel
theorem dX1_takesAsk_42 : decode cX1_takesAsk 42 = .ok (.dup, 1) := by decide +kernel
theorem dX1_takesAsk_43 : decode cX1_takesAsk 43 = .ok (.getfield 114, 3) := by decide +kernel
theorem dX1_takesAsk_46 : decode cX1_takesAsk 46 = .ok (.iconst 1, 1) := by decide +kernel
theorem dX1_takesAsk_47 : decode cX1_takesAsk 47 = .ok (.iadd, 1) := by decide +kernel
theorem dX1_takesAsk_48 : decode cX1_takesAsk 48 = .ok (.putfield 114, 3) := by decide +kernel
theorem dX1_takesAsk_51 : decode cX1_takesAsk 51 = .ok (.aload_n 0, 1) := by decide +kernel
theorem dX1_takesAsk_52 : decode cX1_takesAsk 52 = .ok (.aload_n 1, 1) := by decide +kernel
theorem dX1_takesAsk_53 : decode cX1_takesAsk 53 = .ok (.iload_n 2, 1) := by decide +kernel
theorem dX1_takesAsk_54 : decode cX1_takesAsk 54 = .ok (.invokevirtual 117, 3) := by decide +kernel
theorem dX1_takesAsk_57 : decode cX1_takesAsk 57 = .ok (.aload_n 0, 1) := by decide +kernel
theorem dX1_takesAsk_58 : decode cX1_takesAsk 58 = .ok (.iload_n 2, 1) := by decide +kernel
theorem dX1_takesAsk_59 : decode cX1_takesAsk 59 = .ok (.iconst 1, 1) := by decide +kernel
theorem dX1_takesAsk_60 : decode cX1_takesAsk 60 = .ok (.if_icmp .ne 7, 3) := by decide +kernel
theorem dX1_takesAsk_63 : decode cX1_takesAsk 63 = .ok (.iconst 2, 1) := by decide +kernel
theorem dX1_takesAsk_64 : decode cX1_takesAsk 64 = .ok (.goto 4, 3) := by decide +kernel
theorem dX1_takesAsk_67 : decode cX1_takesAsk 67 = .ok (.iconst 0, 1) := by decide +kernel
theorem dX1_takesAsk_68 : decode cX1_takesAsk 68 = .ok (.putfield 68, 3) := by decide +kernel
theorem dX1_takesAsk_71 : decode cX1_takesAsk 71 = .ok (.aload_n 0, 1) := by decide +kernel
theorem dX1_takesAsk_72 : decode cX1_takesAsk 72 = .ok (.getfield 25, 3) := by decide +kernel
theorem dX1_takesAsk_75 : decode cX1_takesAsk 75 = .ok (.getfield 74, 3) := by decide +kernel
theorem dX1_takesAsk_78 : decode cX1_takesAsk 78 = .ok (.getfield 80, 3) := by decide +kernel
theorem dX1_takesAsk_81 : decode cX1_takesAsk 81 = .ok (.iconst 2, 1) := by decide +kernel
theorem dX1_takesAsk_82 : decode cX1_takesAsk 82 = .ok (.aload_n 0, 1) := by decide +kernel
theorem dX1_takesAsk_83 : decode cX1_takesAsk 83 = .ok (.getfield 60, 3) := by decide +kernel
theorem dX1_takesAsk_86 : decode cX1_takesAsk 86 = .ok (.i2l, 1) := by decide +kernel
theorem dX1_takesAsk_87 : decode cX1_takesAsk 87 = .ok (.lastore, 1) := by decide +kernel
theorem dX1_takesAsk_88 : decode cX1_takesAsk 88 = .ok (.aload_n 0, 1) := by decide +kernel
theorem dX1_takesAsk_89 : decode cX1_takesAsk 89 = .ok (.getfield 25, 3) := by decide +kernel
theorem dX1_takesAsk_92 : decode cX1_takesAsk 92 = .ok (.getfield 74, 3) := by decide +kernel
theorem dX1_takesAsk_95 : decode cX1_takesAsk 95 = .ok (.getfield 80, 3) := by decide +kernel
theorem dX1_takesAsk_98 : decode cX1_takesAsk 98 = .ok (.bipush 6, 2) := by decide +kernel
theorem dX1_takesAsk_100 : decode cX1_takesAsk 100 = .ok (.aload_n 0, 1) := by decide +kernel
theorem dX1_takesAsk_101 : decode cX1_takesAsk 101 = .ok (.getfield 71, 3) := by decide +kernel
theorem dX1_takesAsk_104 : decode cX1_takesAsk 104 = .ok (.i2l, 1) := by decide +kernel
theorem dX1_takesAsk_105 : decode cX1_takesAsk 105 = .ok (.lastore, 1) := by decide +kernel
theorem dX1_takesAsk_106 : decode cX1_takesAsk 106 = .ok (.aload_n 0, 1) := by decide +kernel
theorem dX1_takesAsk_107 : decode cX1_takesAsk 107 = .ok (.getfield 25, 3) := by decide +kernel
theorem dX1_takesAsk_110 : decode cX1_takesAsk 110 = .ok (.getfield 74, 3) := by decide +kernel
theorem dX1_takesAsk_113 : decode cX1_takesAsk 113 = .ok (.getfield 80, 3) := by decide +kernel
theorem dX1_takesAsk_116 : decode cX1_takesAsk 116 = .ok (.bipush 7, 2) := by decide +kernel
theorem dX1_takesAsk_118 : decode cX1_takesAsk 118 = .ok (.iload_n 2, 1) := by decide +kernel
theorem dX1_takesAsk_119 : decode cX1_takesAsk 119 = .ok (.i2l, 1) := by decide +kernel
theorem dX1_takesAsk_120 : decode cX1_takesAsk 120 = .ok (.lastore, 1) := by decide +kernel
theorem dX1_takesAsk_121 : decode cX1_takesAsk 121 = .ok (.aload_n 0, 1) := by decide +kernel
theorem dX1_takesAsk_122 : decode cX1_takesAsk 122 = .ok (.getfield 25, 3) := by decide +kernel
theorem dX1_takesAsk_125 : decode cX1_takesAsk 125 = .ok (.getfield 74, 3) := by decide +kernel
theorem dX1_takesAsk_128 : decode cX1_takesAsk 128 = .ok (.getfield 80, 3) := by decide +kernel
theorem dX1_takesAsk_131 : decode cX1_takesAsk 131 = .ok (.bipush 8, 2) := by decide +kernel
theorem dX1_takesAsk_133 : decode cX1_takesAsk 133 = .ok (.aload_n 0, 1) := by decide +kernel
theorem dX1_takesAsk_134 : decode cX1_takesAsk 134 = .ok (.getfield 25, 3) := by decide +kernel
theorem dX1_takesAsk_137 : decode cX1_takesAsk 137 = .ok (.getfield 84, 3) := by decide +kernel
theorem dX1_takesAsk_140 : decode cX1_takesAsk 140 = .ok (.aload_n 0, 1) := by decide +kernel
theorem dX1_takesAsk_141 : decode cX1_takesAsk 141 = .ok (.getfield 21, 3) := by decide +kernel
theorem dX1_takesAsk_144 : decode cX1_takesAsk 144 = .ok (.invokevirtual 120, 3) := by decide +kernel
theorem dX1_takesAsk_147 : decode cX1_takesAsk 147 = .ok (.invokevirtual 94, 3) := by decide +kernel
theorem dX1_takesAsk_150 : decode cX1_takesAsk 150 = .ok (.lastore, 1) := by decide +kernel
theorem dX1_takesAsk_151 : decode cX1_takesAsk 151 = .ok (.aload_n 0, 1) := by decide +kernel
theorem dX1_takesAsk_152 : decode cX1_takesAsk 152 = .ok (.aload_n 1, 1) := by decide +kernel
theorem dX1_takesAsk_153 : decode cX1_takesAsk 153 = .ok (.bipush 6, 2) := by decide +kernel
theorem dX1_takesAsk_155 : decode cX1_takesAsk 155 = .ok (.invokevirtual 98, 3) := by decide +kernel
theorem dX1_takesAsk_158 : decode cX1_takesAsk 158 = .ok (.iconst 1, 1) := by decide +kernel
theorem dX1_takesAsk_159 : decode cX1_takesAsk 159 = .ok (.ireturn, 1) := by decide +kernel
theorem dX1_answerTo_0 : decode cX1_answerTo 0 = .ok (.aload_n 0, 1) := by decide +kernel
theorem dX1_answerTo_1 : decode cX1_answerTo 1 = .ok (.getfield 9, 3) := by decide +kernel
theorem dX1_answerTo_4 : decode cX1_answerTo 4 = .ok (.ifCond .eq 7, 3) := by decide +kernel
theorem dX1_answerTo_7 : decode cX1_answerTo 7 = .ok (.iload_n 1, 1) := by decide +kernel
theorem dX1_answerTo_8 : decode cX1_answerTo 8 = .ok (.ifCond .ne 5, 3) := by decide +kernel
theorem dX1_answerTo_11 : decode cX1_answerTo 11 = .ok (.iconst 0, 1) := by decide +kernel
theorem dX1_answerTo_12 : decode cX1_answerTo 12 = .ok (.ireturn, 1) := by decide +kernel
theorem dX1_answerTo_13 : decode cX1_answerTo 13 = .ok (.iload_n 1, 1) := by decide +kernel
theorem dX1_answerTo_14 : decode cX1_answerTo 14 = .ok (.iconst 2, 1) := by decide +kernel
theorem dX1_answerTo_15 : decode cX1_answerTo 15 = .ok (.if_icmp .ne 27, 3) := by decide +kernel
theorem dX1_answerTo_18 : decode cX1_answerTo 18 = .ok (.lload_n 2, 1) := by decide +kernel
theorem dX1_answerTo_19 : decode cX1_answerTo 19 = .ok (.aload_n 0, 1) := by decide +kernel
theorem dX1_answerTo_20 : decode cX1_answerTo 20 = .ok (.getfield 35, 3) := by decide +kernel
theorem dX1_answerTo_23 : decode cX1_answerTo 23 = .ok (.lcmp, 1) := by decide +kernel
theorem dX1_answerTo_24 : decode cX1_answerTo 24 = .ok (.ifCond .gt 18, 3) := by decide +kernel
theorem dX1_answerTo_27 : decode cX1_answerTo 27 = .ok (.aload_n 0, 1) := by decide +kernel
theorem dX1_answerTo_28 : decode cX1_answerTo 28 = .ok (.getfield 114, 3) := by decide +kernel
theorem dX1_answerTo_31 : decode cX1_answerTo 31 = .ok (.aload_n 0, 1) := by decide +kernel
theorem dX1_answerTo_32 : decode cX1_answerTo 32 = .ok (.getfield 39, 3) := by decide +kernel
theorem dX1_answerTo_35 : decode cX1_answerTo 35 = .ok (.if_icmp .ge 7, 3) := by decide +kernel
theorem dX1_answerTo_38 : decode cX1_answerTo 38 = .ok (.iconst 2, 1) := by decide +kernel
theorem dX1_answerTo_39 : decode cX1_answerTo 39 = .ok (.goto 4, 3) := by decide +kernel
theorem dX1_answerTo_42 : decode cX1_answerTo 42 = .ok (.iconst 1, 1) := by decide +kernel
theorem dX1_answerTo_43 : decode cX1_answerTo 43 = .ok (.ireturn, 1) := by decide +kernel
theorem dX1_keepAsked_0 : decode cX1_keepAsked 0 = .ok (.aload_n 0, 1) := by decide +kernel
theorem dX1_keepAsked_1 : decode cX1_keepAsked 1 = .ok (.new 18, 3) := by decide +kernel
theorem dX1_keepAsked_4 : decode cX1_keepAsked 4 = .ok (.dup, 1) := by decide +kernel
theorem dX1_keepAsked_5 : decode cX1_keepAsked 5 = .ok (.invokespecial 20, 3) := by decide +kernel
theorem dX1_keepAsked_8 : decode cX1_keepAsked 8 = .ok (.putfield 21, 3) := by decide +kernel
theorem dX1_keepAsked_11 : decode cX1_keepAsked 11 = .ok (.aload_n 0, 1) := by decide +kernel
theorem dX1_keepAsked_12 : decode cX1_keepAsked 12 = .ok (.getfield 21, 3) := by decide +kernel
theorem dX1_keepAsked_15 : decode cX1_keepAsked 15 = .ok (.aload_n 0, 1) := by decide +kernel
theorem dX1_keepAsked_16 : decode cX1_keepAsked 16 = .ok (.getfield 29, 3) := by decide +kernel
theorem dX1_keepAsked_19 : decode cX1_keepAsked 19 = .ok (.putfield 124, 3) := by decide +kernel
theorem dX1_keepAsked_22 : decode cX1_keepAsked 22 = .ok (.aload_n 0, 1) := by decide +kernel
theorem dX1_keepAsked_23 : decode cX1_keepAsked 23 = .ok (.getfield 21, 3) := by decide +kernel
theorem dX1_keepAsked_26 : decode cX1_keepAsked 26 = .ok (.aload_n 0, 1) := by decide +kernel
theorem dX1_keepAsked_27 : decode cX1_keepAsked 27 = .ok (.getfield 60, 3) := by decide +kernel
theorem dX1_keepAsked_30 : decode cX1_keepAsked 30 = .ok (.putfield 127, 3) := by decide +kernel
theorem dX1_keepAsked_33 : decode cX1_keepAsked 33 = .ok (.aload_n 0, 1) := by decide +kernel
theorem dX1_keepAsked_34 : decode cX1_keepAsked 34 = .ok (.getfield 21, 3) := by decide +kernel
theorem dX1_keepAsked_37 : decode cX1_keepAsked 37 = .ok (.aload_n 1, 1) := by decide +kernel
theorem dX1_keepAsked_38 : decode cX1_keepAsked 38 = .ok (.getfield 80, 3) := by decide +kernel
theorem dX1_keepAsked_41 : decode cX1_keepAsked 41 = .ok (.iconst 3, 1) := by decide +kernel
theorem dX1_keepAsked_42 : decode cX1_keepAsked 42 = .ok (.laload, 1) := by decide +kernel
theorem dX1_keepAsked_43 : decode cX1_keepAsked 43 = .ok (.putfield 128, 3) := by decide +kernel
theorem dX1_keepAsked_46 : decode cX1_keepAsked 46 = .ok (.aload_n 0, 1) := by decide +kernel
theorem dX1_keepAsked_47 : decode cX1_keepAsked 47 = .ok (.getfield 21, 3) := by decide +kernel
theorem dX1_keepAsked_50 : decode cX1_keepAsked 50 = .ok (.aload_n 1, 1) := by decide +kernel
theorem dX1_keepAsked_51 : decode cX1_keepAsked 51 = .ok (.getfield 80, 3) := by decide +kernel
theorem dX1_keepAsked_54 : decode cX1_keepAsked 54 = .ok (.iconst 4, 1) := by decide +kernel
theorem dX1_keepAsked_55 : decode cX1_keepAsked 55 = .ok (.laload, 1) := by decide +kernel
theorem dX1_keepAsked_56 : decode cX1_keepAsked 56 = .ok (.putfield 131, 3) := by decide +kernel
theorem dX1_keepAsked_59 : decode cX1_keepAsked 59 = .ok (.aload_n 0, 1) := by decide +kernel
theorem dX1_keepAsked_60 : decode cX1_keepAsked 60 = .ok (.getfield 21, 3) := by decide +kernel
theorem dX1_keepAsked_63 : decode cX1_keepAsked 63 = .ok (.aload_n 1, 1) := by decide +kernel
theorem dX1_keepAsked_64 : decode cX1_keepAsked 64 = .ok (.iconst 5, 1) := by decide +kernel
theorem dX1_keepAsked_65 : decode cX1_keepAsked 65 = .ok (.invokevirtual 106, 3) := by decide +kernel
theorem dX1_keepAsked_68 : decode cX1_keepAsked 68 = .ok (.putfield 134, 3) := by decide +kernel
theorem dX1_keepAsked_71 : decode cX1_keepAsked 71 = .ok (.aload_n 0, 1) := by decide +kernel
theorem dX1_keepAsked_72 : decode cX1_keepAsked 72 = .ok (.getfield 21, 3) := by decide +kernel
theorem dX1_keepAsked_75 : decode cX1_keepAsked 75 = .ok (.aload_n 0, 1) := by decide +kernel
theorem dX1_keepAsked_76 : decode cX1_keepAsked 76 = .ok (.getfield 71, 3) := by decide +kernel
theorem dX1_keepAsked_79 : decode cX1_keepAsked 79 = .ok (.putfield 137, 3) := by decide +kernel
theorem dX1_keepAsked_82 : decode cX1_keepAsked 82 = .ok (.aload_n 0, 1) := by decide +kernel
theorem dX1_keepAsked_83 : decode cX1_keepAsked 83 = .ok (.getfield 21, 3) := by decide +kernel
theorem dX1_keepAsked_86 : decode cX1_keepAsked 86 = .ok (.iload_n 2, 1) := by decide +kernel
theorem dX1_keepAsked_87 : decode cX1_keepAsked 87 = .ok (.putfield 138, 3) := by decide +kernel
theorem dX1_keepAsked_90 : decode cX1_keepAsked 90 = .ok (.aload_n 0, 1) := by decide +kernel
theorem dX1_keepAsked_91 : decode cX1_keepAsked 91 = .ok (.getfield 25, 3) := by decide +kernel
theorem dX1_keepAsked_94 : decode cX1_keepAsked 94 = .ok (.getfield 141, 3) := by decide +kernel
theorem dX1_keepAsked_97 : decode cX1_keepAsked 97 = .ok (.aload_n 0, 1) := by decide +kernel
theorem dX1_keepAsked_98 : decode cX1_keepAsked 98 = .ok (.getfield 21, 3) := by decide +kernel
theorem dX1_keepAsked_101 : decode cX1_keepAsked 101 = .ok (.invokevirtual 145, 3) := by decide +kernel
theorem dX1_keepAsked_104 : decode cX1_keepAsked 104 = .ok (.pop, 1) := by decide +kernel
theorem dX1_keepAsked_105 : decode cX1_keepAsked 105 = .ok (.return_, 1) := by decide +kernel
theorem dX1_takesEnd_0 : decode cX1_takesEnd 0 = .ok (.aload_n 0, 1) := by decide +kernel
theorem dX1_takesEnd_1 : decode cX1_takesEnd 1 = .ok (.getfield 68, 3) := by decide +kernel
theorem dX1_takesEnd_4 : decode cX1_takesEnd 4 = .ok (.iconst 2, 1) := by decide +kernel
theorem dX1_takesEnd_5 : decode cX1_takesEnd 5 = .ok (.if_icmp .eq 5, 3) := by decide +kernel
theorem dX1_takesEnd_8 : decode cX1_takesEnd 8 = .ok (.iconst 0, 1) := by decide +kernel
theorem dX1_takesEnd_9 : decode cX1_takesEnd 9 = .ok (.ireturn, 1) := by decide +kernel
theorem dX1_takesEnd_10 : decode cX1_takesEnd 10 = .ok (.aload_n 0, 1) := by decide +kernel
theorem dX1_takesEnd_11 : decode cX1_takesEnd 11 = .ok (.aload_n 1, 1) := by decide +kernel
theorem dX1_takesEnd_12 : decode cX1_takesEnd 12 = .ok (.invokevirtual 151, 3) := by decide +kernel
theorem dX1_takesEnd_15 : decode cX1_takesEnd 15 = .ok (.ifCond .eq 7, 3) := by decide +kernel
theorem dX1_takesEnd_18 : decode cX1_takesEnd 18 = .ok (.iconst 2, 1) := by decide +kernel
theorem dX1_takesEnd_19 : decode cX1_takesEnd 19 = .ok (.goto 4, 3) := by decide +kernel
theorem dX1_takesEnd_22 : decode cX1_takesEnd 22 = .ok (.iconst 0, 1) := by decide +kernel
theorem dX1_takesEnd_23 : decode cX1_takesEnd 23 = .ok (.istore_n 2, 1) := by decide +kernel
theorem dX1_takesEnd_24 : decode cX1_takesEnd 24 = .ok (.iload_n 2, 1) := by decide +kernel
theorem dX1_takesEnd_25 : decode cX1_takesEnd 25 = .ok (.iconst 2, 1) := by decide +kernel
theorem dX1_takesEnd_26 : decode cX1_takesEnd 26 = .ok (.if_icmp .ne 17, 3) := by decide +kernel
theorem dX1_takesEnd_29 : decode cX1_takesEnd 29 = .ok (.aload_n 0, 1) := by decide +kernel
theorem dX1_takesEnd_30 : decode cX1_takesEnd 30 = .ok (.invokevirtual 64, 3) := by decide +kernel
theorem dX1_takesEnd_33 : decode cX1_takesEnd 33 = .ok (.ifCond .eq 5, 3) := by decide +kernel
theorem dX1_takesEnd_36 : decode cX1_takesEnd 36 = .ok (.iconst 1, 1) := by decide +kernel
theorem dX1_takesEnd_37 : decode cX1_takesEnd 37 = .ok (.ireturn, 1) := by decide +kernel
theorem dX1_takesEnd_38 : decode cX1_takesEnd 38 = .ok (.aload_n 0, 1) := by decide +kernel
theorem dX1_takesEnd_39 : decode cX1_takesEnd 39 = .ok (.iconst 0, 1) := by decide +kernel
theorem dX1_takesEnd_40 : decode cX1_takesEnd 40 = .ok (.putfield 114, 3) := by decide +kernel
theorem dX1_takesEnd_43 : decode cX1_takesEnd 43 = .ok (.aload_n 0, 1) := by decide +kernel
theorem dX1_takesEnd_44 : decode cX1_takesEnd 44 = .ok (.iconst 0, 1) := by decide +kernel
theorem dX1_takesEnd_45 : decode cX1_takesEnd 45 = .ok (.putfield 68, 3) := by decide +kernel
theorem dX1_takesEnd_48 : decode cX1_takesEnd 48 = .ok (.aload_n 0, 1) := by decide +kernel
theorem dX1_takesEnd_49 : decode cX1_takesEnd 49 = .ok (.getfield 25, 3) := by decide +kernel
theorem dX1_takesEnd_52 : decode cX1_takesEnd 52 = .ok (.getfield 74, 3) := by decide +kernel
theorem dX1_takesEnd_55 : decode cX1_takesEnd 55 = .ok (.getfield 80, 3) := by decide +kernel
theorem dX1_takesEnd_58 : decode cX1_takesEnd 58 = .ok (.bipush 7, 2) := by decide +kernel
theorem dX1_takesEnd_60 : decode cX1_takesEnd 60 = .ok (.iload_n 2, 1) := by decide +kernel
theorem dX1_takesEnd_61 : decode cX1_takesEnd 61 = .ok (.i2l, 1) := by decide +kernel
theorem dX1_takesEnd_62 : decode cX1_takesEnd 62 = .ok (.lastore, 1) := by decide +kernel
theorem dX1_takesEnd_63 : decode cX1_takesEnd 63 = .ok (.aload_n 0, 1) := by decide +kernel
theorem dX1_takesEnd_64 : decode cX1_takesEnd 64 = .ok (.getfield 25, 3) := by decide +kernel
theorem dX1_takesEnd_67 : decode cX1_takesEnd 67 = .ok (.getfield 74, 3) := by decide +kernel
theorem dX1_takesEnd_70 : decode cX1_takesEnd 70 = .ok (.getfield 80, 3) := by decide +kernel
theorem dX1_takesEnd_73 : decode cX1_takesEnd 73 = .ok (.bipush 8, 2) := by decide +kernel
theorem dX1_takesEnd_75 : decode cX1_takesEnd 75 = .ok (.aload_n 0, 1) := by decide +kernel
theorem dX1_takesEnd_76 : decode cX1_takesEnd 76 = .ok (.getfield 25, 3) := by decide +kernel
theorem dX1_takesEnd_79 : decode cX1_takesEnd 79 = .ok (.getfield 84, 3) := by decide +kernel
theorem dX1_takesEnd_82 : decode cX1_takesEnd 82 = .ok (.aload_n 0, 1) := by decide +kernel
theorem dX1_takesEnd_83 : decode cX1_takesEnd 83 = .ok (.getfield 21, 3) := by decide +kernel
theorem dX1_takesEnd_86 : decode cX1_takesEnd 86 = .ok (.iload_n 2, 1) := by decide +kernel
theorem dX1_takesEnd_87 : decode cX1_takesEnd 87 = .ok (.invokevirtual 154, 3) := by decide +kernel
theorem dX1_takesEnd_90 : decode cX1_takesEnd 90 = .ok (.invokevirtual 94, 3) := by decide +kernel
theorem dX1_takesEnd_93 : decode cX1_takesEnd 93 = .ok (.lastore, 1) := by decide +kernel
theorem dX1_takesEnd_94 : decode cX1_takesEnd 94 = .ok (.aload_n 0, 1) := by decide +kernel
theorem dX1_takesEnd_95 : decode cX1_takesEnd 95 = .ok (.aload_n 1, 1) := by decide +kernel
theorem dX1_takesEnd_96 : decode cX1_takesEnd 96 = .ok (.bipush 10, 2) := by decide +kernel
theorem dX1_takesEnd_98 : decode cX1_takesEnd 98 = .ok (.invokevirtual 98, 3) := by decide +kernel
theorem dX1_takesEnd_101 : decode cX1_takesEnd 101 = .ok (.iconst 1, 1) := by decide +kernel
theorem dX1_takesEnd_102 : decode cX1_takesEnd 102 = .ok (.ireturn, 1) := by decide +kernel
theorem dX1_isApproved_0 : decode cX1_isApproved 0 = .ok (.aload_n 1, 1) := by decide +kernel
theorem dX1_isApproved_1 : decode cX1_isApproved 1 = .ok (.getfield 80, 3) := by decide +kernel
theorem dX1_isApproved_4 : decode cX1_isApproved 4 = .ok (.bipush 10, 2) := by decide +kernel
theorem dX1_isApproved_6 : decode cX1_isApproved 6 = .ok (.laload, 1) := by decide +kernel
theorem dX1_isApproved_7 : decode cX1_isApproved 7 = .ok (.lconst 1, 1) := by decide +kernel
theorem dX1_isApproved_8 : decode cX1_isApproved 8 = .ok (.lcmp, 1) := by decide +kernel
theorem dX1_isApproved_9 : decode cX1_isApproved 9 = .ok (.ifCond .ne 39, 3) := by decide +kernel
theorem dX1_isApproved_12 : decode cX1_isApproved 12 = .ok (.aload_n 0, 1) := by decide +kernel
theorem dX1_isApproved_13 : decode cX1_isApproved 13 = .ok (.getfield 25, 3) := by decide +kernel
theorem dX1_isApproved_16 : decode cX1_isApproved 16 = .ok (.getfield 84, 3) := by decide +kernel
theorem dX1_isApproved_19 : decode cX1_isApproved 19 = .ok (.aload_n 0, 1) := by decide +kernel
theorem dX1_isApproved_20 : decode cX1_isApproved 20 = .ok (.getfield 29, 3) := by decide +kernel
theorem dX1_isApproved_23 : decode cX1_isApproved 23 = .ok (.aload_n 0, 1) := by decide +kernel
theorem dX1_isApproved_24 : decode cX1_isApproved 24 = .ok (.getfield 60, 3) := by decide +kernel
theorem dX1_isApproved_27 : decode cX1_isApproved 27 = .ok (.iconst 1, 1) := by decide +kernel
theorem dX1_isApproved_28 : decode cX1_isApproved 28 = .ok (.invokevirtual 158, 3) := by decide +kernel
theorem dX1_isApproved_31 : decode cX1_isApproved 31 = .ok (.aload_n 1, 1) := by decide +kernel
theorem dX1_isApproved_32 : decode cX1_isApproved 32 = .ok (.getfield 80, 3) := by decide +kernel
theorem dX1_isApproved_35 : decode cX1_isApproved 35 = .ok (.bipush 8, 2) := by decide +kernel
theorem dX1_isApproved_37 : decode cX1_isApproved 37 = .ok (.laload, 1) := by decide +kernel
theorem dX1_isApproved_38 : decode cX1_isApproved 38 = .ok (.invokevirtual 162, 3) := by decide +kernel
theorem dX1_isApproved_41 : decode cX1_isApproved 41 = .ok (.ifCond .eq 7, 3) := by decide +kernel
theorem dX1_isApproved_44 : decode cX1_isApproved 44 = .ok (.iconst 1, 1) := by decide +kernel
theorem dX1_isApproved_45 : decode cX1_isApproved 45 = .ok (.goto 4, 3) := by decide +kernel
theorem dX1_isApproved_48 : decode cX1_isApproved 48 = .ok (.iconst 0, 1) := by decide +kernel
theorem dX1_isApproved_49 : decode cX1_isApproved 49 = .ok (.ireturn, 1) := by decide +kernel
theorem dX1_reply_0 : decode cX1_reply 0 = .ok (.aload_n 0, 1) := by decide +kernel
theorem dX1_reply_1 : decode cX1_reply 1 = .ok (.getfield 25, 3) := by decide +kernel
theorem dX1_reply_4 : decode cX1_reply 4 = .ok (.iload_n 2, 1) := by decide +kernel
theorem dX1_reply_5 : decode cX1_reply 5 = .ok (.iconst 0, 1) := by decide +kernel
theorem dX1_reply_6 : decode cX1_reply 6 = .ok (.aload_n 0, 1) := by decide +kernel
theorem dX1_reply_7 : decode cX1_reply 7 = .ok (.getfield 29, 3) := by decide +kernel
theorem dX1_reply_10 : decode cX1_reply 10 = .ok (.aload_n 1, 1) := by decide +kernel
theorem dX1_reply_11 : decode cX1_reply 11 = .ok (.getfield 166, 3) := by decide +kernel
theorem dX1_reply_14 : decode cX1_reply 14 = .ok (.aload_n 1, 1) := by decide +kernel
theorem dX1_reply_15 : decode cX1_reply 15 = .ok (.getfield 169, 3) := by decide +kernel
theorem dX1_reply_18 : decode cX1_reply 18 = .ok (.invokevirtual 172, 3) := by decide +kernel
theorem dX1_reply_21 : decode cX1_reply 21 = .ok (.pop, 1) := by decide +kernel
theorem dX1_reply_22 : decode cX1_reply 22 = .ok (.return_, 1) := by decide +kernel
theorem dX1_losesPower_0 : decode cX1_losesPower 0 = .ok (.aload_n 0, 1) := by decide +kernel
theorem dX1_losesPower_1 : decode cX1_losesPower 1 = .ok (.getfield 15, 3) := by decide +kernel
theorem dX1_losesPower_4 : decode cX1_losesPower 4 = .ok (.iconst (-1), 1) := by decide +kernel
theorem dX1_losesPower_5 : decode cX1_losesPower 5 = .ok (.if_icmp .ne 5, 3) := by decide +kernel
theorem dX1_losesPower_8 : decode cX1_losesPower 8 = .ok (.iconst 0, 1) := by decide +kernel
theorem dX1_losesPower_9 : decode cX1_losesPower 9 = .ok (.ireturn, 1) := by decide +kernel
theorem dX1_losesPower_10 : decode cX1_losesPower 10 = .ok (.aload_n 0, 1) := by decide +kernel
theorem dX1_losesPower_11 : decode cX1_losesPower 11 = .ok (.dup, 1) := by decide +kernel
theorem dX1_losesPower_12 : decode cX1_losesPower 12 = .ok (.getfield 15, 3) := by decide +kernel
theorem dX1_losesPower_15 : decode cX1_losesPower 15 = .ok (.iconst 1, 1) := by decide +kernel
theorem dX1_losesPower_16 : decode cX1_losesPower 16 = .ok (.isub, 1) := by decide +kernel
theorem dX1_losesPower_17 : decode cX1_losesPower 17 = .ok (.putfield 15, 3) := by decide +kernel
theorem dX1_losesPower_20 : decode cX1_losesPower 20 = .ok (.aload_n 0, 1) := by decide +kernel
theorem dX1_losesPower_21 : decode cX1_losesPower 21 = .ok (.getfield 15, 3) := by decide +kernel
theorem dX1_losesPower_24 : decode cX1_losesPower 24 = .ok (.iconst (-1), 1) := by decide +kernel
theorem dX1_losesPower_25 : decode cX1_losesPower 25 = .ok (.if_icmp .eq 5, 3) := by decide +kernel
theorem dX1_losesPower_28 : decode cX1_losesPower 28 = .ok (.iconst 0, 1) := by decide +kernel
theorem dX1_losesPower_29 : decode cX1_losesPower 29 = .ok (.ireturn, 1) := by decide +kernel
theorem dX1_losesPower_30 : decode cX1_losesPower 30 = .ok (.aload_n 0, 1) := by decide +kernel
theorem dX1_losesPower_31 : decode cX1_losesPower 31 = .ok (.iconst 0, 1) := by decide +kernel
theorem dX1_losesPower_32 : decode cX1_losesPower 32 = .ok (.putfield 68, 3) := by decide +kernel
theorem dX1_losesPower_35 : decode cX1_losesPower 35 = .ok (.aload_n 0, 1) := by decide +kernel
theorem dX1_losesPower_36 : decode cX1_losesPower 36 = .ok (.iconst 0, 1) := by decide +kernel
theorem dX1_losesPower_37 : decode cX1_losesPower 37 = .ok (.putfield 71, 3) := by decide +kernel
theorem dX1_losesPower_40 : decode cX1_losesPower 40 = .ok (.aload_n 0, 1) := by decide +kernel
theorem dX1_losesPower_41 : decode cX1_losesPower 41 = .ok (.new 18, 3) := by decide +kernel
theorem dX1_losesPower_44 : decode cX1_losesPower 44 = .ok (.dup, 1) := by decide +kernel
theorem dX1_losesPower_45 : decode cX1_losesPower 45 = .ok (.invokespecial 20, 3) := by decide +kernel
theorem dX1_losesPower_48 : decode cX1_losesPower 48 = .ok (.putfield 21, 3) := by decide +kernel
theorem dX1_losesPower_51 : decode cX1_losesPower 51 = .ok (.iconst 1, 1) := by decide +kernel
theorem dX1_losesPower_52 : decode cX1_losesPower 52 = .ok (.ireturn, 1) := by decide +kernel
theorem dX2_init_0 : decode cX2_init 0 = .ok (.aload_n 0, 1) := by decide +kernel
theorem dX2_init_1 : decode cX2_init 1 = .ok (.invokespecial 3, 3) := by decide +kernel
theorem dX2_init_4 : decode cX2_init 4 = .ok (.aload_n 0, 1) := by decide +kernel
theorem dX2_init_5 : decode cX2_init 5 = .ok (.bipush 12, 2) := by decide +kernel
theorem dX2_init_7 : decode cX2_init 7 = .ok (.newarray .long, 2) := by decide +kernel
theorem dX2_init_9 : decode cX2_init 9 = .ok (.putfield 9, 3) := by decide +kernel
theorem dX2_init_12 : decode cX2_init 12 = .ok (.return_, 1) := by decide +kernel
theorem dX2_intField_0 : decode cX2_intField 0 = .ok (.aload_n 0, 1) := by decide +kernel
theorem dX2_intField_1 : decode cX2_intField 1 = .ok (.getfield 9, 3) := by decide +kernel
theorem dX2_intField_4 : decode cX2_intField 4 = .ok (.iload_n 1, 1) := by decide +kernel
theorem dX2_intField_5 : decode cX2_intField 5 = .ok (.laload, 1) := by decide +kernel
theorem dX2_intField_6 : decode cX2_intField 6 = .ok (.l2i, 1) := by decide +kernel
theorem dX2_intField_7 : decode cX2_intField 7 = .ok (.ireturn, 1) := by decide +kernel
theorem dX3_init_0 : decode cX3_init 0 = .ok (.aload_n 0, 1) := by decide +kernel
theorem dX3_init_1 : decode cX3_init 1 = .ok (.invokespecial 3, 3) := by decide +kernel
theorem dX3_init_4 : decode cX3_init 4 = .ok (.aload_n 0, 1) := by decide +kernel
theorem dX3_init_5 : decode cX3_init 5 = .ok (.new 9, 3) := by decide +kernel
theorem dX3_init_8 : decode cX3_init 8 = .ok (.dup, 1) := by decide +kernel
theorem dX3_init_9 : decode cX3_init 9 = .ok (.invokespecial 11, 3) := by decide +kernel
theorem dX3_init_12 : decode cX3_init 12 = .ok (.putfield 12, 3) := by decide +kernel
theorem dX3_init_15 : decode cX3_init 15 = .ok (.aload_n 0, 1) := by decide +kernel
theorem dX3_init_16 : decode cX3_init 16 = .ok (.new 9, 3) := by decide +kernel
theorem dX3_init_19 : decode cX3_init 19 = .ok (.dup, 1) := by decide +kernel
theorem dX3_init_20 : decode cX3_init 20 = .ok (.invokespecial 11, 3) := by decide +kernel
theorem dX3_init_23 : decode cX3_init 23 = .ok (.putfield 18, 3) := by decide +kernel
theorem dX3_init_26 : decode cX3_init 26 = .ok (.aload_n 0, 1) := by decide +kernel
theorem dX3_init_27 : decode cX3_init 27 = .ok (.aload_n 1, 1) := by decide +kernel
theorem dX3_init_28 : decode cX3_init 28 = .ok (.putfield 21, 3) := by decide +kernel
theorem dX3_init_31 : decode cX3_init 31 = .ok (.return_, 1) := by decide +kernel
theorem dX3_takes_0 : decode cX3_takes 0 = .ok (.aload_n 1, 1) := by decide +kernel
theorem dX3_takes_1 : decode cX3_takes 1 = .ok (.getfield 25, 3) := by decide +kernel
theorem dX3_takes_4 : decode cX3_takes 4 = .ok (.lookupswitch 40 #[(7, 28), (11, 34)], 28) := by decide +kernel
theorem dX3_takes_32 : decode cX3_takes 32 = .ok (.aload_n 0, 1) := by decide +kernel
theorem dX3_takes_33 : decode cX3_takes 33 = .ok (.aload_n 1, 1) := by decide +kernel
theorem dX3_takes_34 : decode cX3_takes 34 = .ok (.invokevirtual 31, 3) := by decide +kernel
theorem dX3_takes_37 : decode cX3_takes 37 = .ok (.ireturn, 1) := by decide +kernel
theorem dX3_takes_38 : decode cX3_takes 38 = .ok (.aload_n 0, 1) := by decide +kernel
theorem dX3_takes_39 : decode cX3_takes 39 = .ok (.aload_n 1, 1) := by decide +kernel
theorem dX3_takes_40 : decode cX3_takes 40 = .ok (.invokevirtual 35, 3) := by decide +kernel
theorem dX3_takes_43 : decode cX3_takes 43 = .ok (.ireturn, 1) := by decide +kernel
theorem dX3_takes_44 : decode cX3_takes 44 = .ok (.iconst 0, 1) := by decide +kernel
theorem dX3_takes_45 : decode cX3_takes 45 = .ok (.ireturn, 1) := by decide +kernel
theorem dX3_takesRequest_0 : decode cX3_takesRequest 0 = .ok (.aload_n 1, 1) := by decide +kernel
theorem dX3_takesRequest_1 : decode cX3_takesRequest 1 = .ok (.iconst 1, 1) := by decide +kernel
theorem dX3_takesRequest_2 : decode cX3_takesRequest 2 = .ok (.invokestatic 38, 3) := by decide +kernel
theorem dX3_takesRequest_5 : decode cX3_takesRequest 5 = .ok (.astore_n 2, 1) := by decide +kernel
theorem dX3_takesRequest_6 : decode cX3_takesRequest 6 = .ok (.aload_n 0, 1) := by decide +kernel
theorem dX3_takesRequest_7 : decode cX3_takesRequest 7 = .ok (.aload_n 1, 1) := by decide +kernel
theorem dX3_takesRequest_8 : decode cX3_takesRequest 8 = .ok (.aload_n 2, 1) := by decide +kernel
theorem dX3_takesRequest_9 : decode cX3_takesRequest 9 = .ok (.invokevirtual 42, 3) := by decide +kernel
theorem dX3_takesRequest_12 : decode cX3_takesRequest 12 = .ok (.ifCond .ne 5, 3) := by decide +kernel
theorem dX3_takesRequest_15 : decode cX3_takesRequest 15 = .ok (.iconst 0, 1) := by decide +kernel
theorem dX3_takesRequest_16 : decode cX3_takesRequest 16 = .ok (.ireturn, 1) := by decide +kernel
theorem dX3_takesRequest_17 : decode cX3_takesRequest 17 = .ok (.aload_n 0, 1) := by decide +kernel
theorem dX3_takesRequest_18 : decode cX3_takesRequest 18 = .ok (.aload_n 2, 1) := by decide +kernel
theorem dX3_takesRequest_19 : decode cX3_takesRequest 19 = .ok (.invokevirtual 46, 3) := by decide +kernel
theorem dX3_takesRequest_22 : decode cX3_takesRequest 22 = .ok (.istore_n 3, 1) := by decide +kernel
theorem dX3_takesRequest_23 : decode cX3_takesRequest 23 = .ok (.aload_n 0, 1) := by decide +kernel
theorem dX3_takesRequest_24 : decode cX3_takesRequest 24 = .ok (.getfield 21, 3) := by decide +kernel
theorem dX3_takesRequest_27 : decode cX3_takesRequest 27 = .ok (.getfield 50, 3) := by decide +kernel
theorem dX3_takesRequest_30 : decode cX3_takesRequest 30 = .ok (.getfield 56, 3) := by decide +kernel
theorem dX3_takesRequest_33 : decode cX3_takesRequest 33 = .ok (.iconst 1, 1) := by decide +kernel
theorem dX3_takesRequest_34 : decode cX3_takesRequest 34 = .ok (.aload_n 2, 1) := by decide +kernel
theorem dX3_takesRequest_35 : decode cX3_takesRequest 35 = .ok (.getfield 60, 3) := by decide +kernel
theorem dX3_takesRequest_38 : decode cX3_takesRequest 38 = .ok (.i2l, 1) := by decide +kernel
theorem dX3_takesRequest_39 : decode cX3_takesRequest 39 = .ok (.lastore, 1) := by decide +kernel
theorem dX3_takesRequest_40 : decode cX3_takesRequest 40 = .ok (.aload_n 0, 1) := by decide +kernel
theorem dX3_takesRequest_41 : decode cX3_takesRequest 41 = .ok (.getfield 21, 3) := by decide +kernel
theorem dX3_takesRequest_44 : decode cX3_takesRequest 44 = .ok (.getfield 50, 3) := by decide +kernel
theorem dX3_takesRequest_47 : decode cX3_takesRequest 47 = .ok (.getfield 56, 3) := by decide +kernel
theorem dX3_takesRequest_50 : decode cX3_takesRequest 50 = .ok (.iconst 2, 1) := by decide +kernel
theorem dX3_takesRequest_51 : decode cX3_takesRequest 51 = .ok (.aload_n 2, 1) := by decide +kernel
theorem dX3_takesRequest_52 : decode cX3_takesRequest 52 = .ok (.getfield 65, 3) := by decide +kernel
theorem dX3_takesRequest_55 : decode cX3_takesRequest 55 = .ok (.i2l, 1) := by decide +kernel
theorem dX3_takesRequest_56 : decode cX3_takesRequest 56 = .ok (.lastore, 1) := by decide +kernel
theorem dX3_takesRequest_57 : decode cX3_takesRequest 57 = .ok (.aload_n 0, 1) := by decide +kernel
theorem dX3_takesRequest_58 : decode cX3_takesRequest 58 = .ok (.getfield 21, 3) := by decide +kernel
theorem dX3_takesRequest_61 : decode cX3_takesRequest 61 = .ok (.getfield 50, 3) := by decide +kernel
theorem dX3_takesRequest_64 : decode cX3_takesRequest 64 = .ok (.getfield 56, 3) := by decide +kernel
theorem dX3_takesRequest_67 : decode cX3_takesRequest 67 = .ok (.bipush 8, 2) := by decide +kernel
theorem dX3_takesRequest_69 : decode cX3_takesRequest 69 = .ok (.aload_n 0, 1) := by decide +kernel
theorem dX3_takesRequest_70 : decode cX3_takesRequest 70 = .ok (.getfield 21, 3) := by decide +kernel
theorem dX3_takesRequest_73 : decode cX3_takesRequest 73 = .ok (.getfield 68, 3) := by decide +kernel
theorem dX3_takesRequest_76 : decode cX3_takesRequest 76 = .ok (.aload_n 2, 1) := by decide +kernel
theorem dX3_takesRequest_77 : decode cX3_takesRequest 77 = .ok (.getfield 60, 3) := by decide +kernel
theorem dX3_takesRequest_80 : decode cX3_takesRequest 80 = .ok (.aload_n 2, 1) := by decide +kernel
theorem dX3_takesRequest_81 : decode cX3_takesRequest 81 = .ok (.getfield 65, 3) := by decide +kernel
theorem dX3_takesRequest_84 : decode cX3_takesRequest 84 = .ok (.iload_n 3, 1) := by decide +kernel
theorem dX3_takesRequest_85 : decode cX3_takesRequest 85 = .ok (.invokevirtual 72, 3) := by decide +kernel
theorem dX3_takesRequest_88 : decode cX3_takesRequest 88 = .ok (.invokevirtual 78, 3) := by decide +kernel
theorem dX3_takesRequest_91 : decode cX3_takesRequest 91 = .ok (.lastore, 1) := by decide +kernel
theorem dX3_takesRequest_92 : decode cX3_takesRequest 92 = .ok (.aload_n 0, 1) := by decide +kernel
theorem dX3_takesRequest_93 : decode cX3_takesRequest 93 = .ok (.getfield 21, 3) := by decide +kernel
theorem dX3_takesRequest_96 : decode cX3_takesRequest 96 = .ok (.getfield 50, 3) := by decide +kernel
theorem dX3_takesRequest_99 : decode cX3_takesRequest 99 = .ok (.getfield 56, 3) := by decide +kernel
theorem dX3_takesRequest_102 : decode cX3_takesRequest 102 = .ok (.bipush 10, 2) := by decide +kernel
theorem dX3_takesRequest_104 : decode cX3_takesRequest 104 = .ok (.iload_n 3, 1) := by decide +kernel
theorem dX3_takesRequest_105 : decode cX3_takesRequest 105 = .ok (.i2l, 1) := by decide +kernel
theorem dX3_takesRequest_106 : decode cX3_takesRequest 106 = .ok (.lastore, 1) := by decide +kernel
theorem dX3_takesRequest_107 : decode cX3_takesRequest 107 = .ok (.aload_n 0, 1) := by decide +kernel
theorem dX3_takesRequest_108 : decode cX3_takesRequest 108 = .ok (.getfield 21, 3) := by decide +kernel
theorem dX3_takesRequest_111 : decode cX3_takesRequest 111 = .ok (.getfield 50, 3) := by decide +kernel
theorem dX3_takesRequest_114 : decode cX3_takesRequest 114 = .ok (.getfield 56, 3) := by decide +kernel
theorem dX3_takesRequest_117 : decode cX3_takesRequest 117 = .ok (.bipush 11, 2) := by decide +kernel
theorem dX3_takesRequest_119 : decode cX3_takesRequest 119 = .ok (.aload_n 0, 1) := by decide +kernel
theorem dX3_takesRequest_120 : decode cX3_takesRequest 120 = .ok (.getfield 21, 3) := by decide +kernel
theorem dX3_takesRequest_123 : decode cX3_takesRequest 123 = .ok (.getfield 68, 3) := by decide +kernel
theorem dX3_takesRequest_126 : decode cX3_takesRequest 126 = .ok (.aload_n 2, 1) := by decide +kernel
theorem dX3_takesRequest_127 : decode cX3_takesRequest 127 = .ok (.iload_n 3, 1) := by decide +kernel
theorem dX3_takesRequest_128 : decode cX3_takesRequest 128 = .ok (.invokevirtual 82, 3) := by decide +kernel
theorem dX3_takesRequest_131 : decode cX3_takesRequest 131 = .ok (.invokevirtual 78, 3) := by decide +kernel
theorem dX3_takesRequest_134 : decode cX3_takesRequest 134 = .ok (.lastore, 1) := by decide +kernel
theorem dX3_takesRequest_135 : decode cX3_takesRequest 135 = .ok (.aload_n 0, 1) := by decide +kernel
theorem dX3_takesRequest_136 : decode cX3_takesRequest 136 = .ok (.getfield 21, 3) := by decide +kernel
theorem dX3_takesRequest_139 : decode cX3_takesRequest 139 = .ok (.bipush 8, 2) := by decide +kernel
theorem dX3_takesRequest_141 : decode cX3_takesRequest 141 = .ok (.iconst 2, 1) := by decide +kernel
theorem dX3_takesRequest_142 : decode cX3_takesRequest 142 = .ok (.iconst 0, 1) := by decide +kernel
theorem dX3_takesRequest_143 : decode cX3_takesRequest 143 = .ok (.iconst 1, 1) := by decide +kernel
theorem dX3_takesRequest_144 : decode cX3_takesRequest 144 = .ok (.aload_n 2, 1) := by decide +kernel
theorem dX3_takesRequest_145 : decode cX3_takesRequest 145 = .ok (.getfield 86, 3) := by decide +kernel
theorem dX3_takesRequest_148 : decode cX3_takesRequest 148 = .ok (.invokevirtual 89, 3) := by decide +kernel
theorem dX3_takesRequest_151 : decode cX3_takesRequest 151 = .ok (.pop, 1) := by decide +kernel
theorem dX3_takesRequest_152 : decode cX3_takesRequest 152 = .ok (.iconst 1, 1) := by decide +kernel
theorem dX3_takesRequest_153 : decode cX3_takesRequest 153 = .ok (.ireturn, 1) := by decide +kernel
theorem dX3_wordFor_0 : decode cX3_wordFor 0 = .ok (.aload_n 0, 1) := by decide +kernel
theorem dX3_wordFor_1 : decode cX3_wordFor 1 = .ok (.aload_n 1, 1) := by decide +kernel
theorem dX3_wordFor_2 : decode cX3_wordFor 2 = .ok (.invokevirtual 93, 3) := by decide +kernel
theorem dX3_wordFor_5 : decode cX3_wordFor 5 = .ok (.ifCond .ne 5, 3) := by decide +kernel
theorem dX3_wordFor_8 : decode cX3_wordFor 8 = .ok (.iconst 0, 1) := by decide +kernel
theorem dX3_wordFor_9 : decode cX3_wordFor 9 = .ok (.ireturn, 1) := by decide +kernel
theorem dX3_wordFor_10 : decode cX3_wordFor 10 = .ok (.aload_n 0, 1) := by decide +kernel
theorem dX3_wordFor_11 : decode cX3_wordFor 11 = .ok (.getfield 12, 3) := by decide +kernel
theorem dX3_wordFor_14 : decode cX3_wordFor 14 = .ok (.aload_n 1, 1) := by decide +kernel
theorem dX3_wordFor_15 : decode cX3_wordFor 15 = .ok (.getfield 60, 3) := by decide +kernel
theorem dX3_wordFor_18 : decode cX3_wordFor 18 = .ok (.invokevirtual 97, 3) := by decide +kernel
theorem dX3_wordFor_21 : decode cX3_wordFor 21 = .ok (.checkcast 101, 3) := by decide +kernel
theorem dX3_wordFor_24 : decode cX3_wordFor 24 = .ok (.astore_n 2, 1) := by decide +kernel
theorem dX3_wordFor_25 : decode cX3_wordFor 25 = .ok (.aload_n 1, 1) := by decide +kernel
theorem dX3_wordFor_26 : decode cX3_wordFor 26 = .ok (.getfield 65, 3) := by decide +kernel
theorem dX3_wordFor_29 : decode cX3_wordFor 29 = .ok (.aload_n 2, 1) := by decide +kernel
theorem dX3_wordFor_30 : decode cX3_wordFor 30 = .ok (.getfield 103, 3) := by decide +kernel
theorem dX3_wordFor_33 : decode cX3_wordFor 33 = .ok (.if_icmp .gt 5, 3) := by decide +kernel
theorem dX3_wordFor_36 : decode cX3_wordFor 36 = .ok (.iconst 0, 1) := by decide +kernel
theorem dX3_wordFor_37 : decode cX3_wordFor 37 = .ok (.ireturn, 1) := by decide +kernel
theorem dX3_wordFor_38 : decode cX3_wordFor 38 = .ok (.aload_n 2, 1) := by decide +kernel
theorem dX3_wordFor_39 : decode cX3_wordFor 39 = .ok (.aload_n 1, 1) := by decide +kernel
theorem dX3_wordFor_40 : decode cX3_wordFor 40 = .ok (.getfield 65, 3) := by decide +kernel
theorem dX3_wordFor_43 : decode cX3_wordFor 43 = .ok (.putfield 103, 3) := by decide +kernel
theorem dX3_wordFor_46 : decode cX3_wordFor 46 = .ok (.aload_n 2, 1) := by decide +kernel
theorem dX3_wordFor_47 : decode cX3_wordFor 47 = .ok (.getfield 106, 3) := by decide +kernel
theorem dX3_wordFor_50 : decode cX3_wordFor 50 = .ok (.aload_n 1, 1) := by decide +kernel
theorem dX3_wordFor_51 : decode cX3_wordFor 51 = .ok (.getfield 110, 3) := by decide +kernel
theorem dX3_wordFor_54 : decode cX3_wordFor 54 = .ok (.lcmp, 1) := by decide +kernel
theorem dX3_wordFor_55 : decode cX3_wordFor 55 = .ok (.ifCond .ge 5, 3) := by decide +kernel
theorem dX3_wordFor_58 : decode cX3_wordFor 58 = .ok (.iconst 0, 1) := by decide +kernel
theorem dX3_wordFor_59 : decode cX3_wordFor 59 = .ok (.ireturn, 1) := by decide +kernel
theorem dX3_wordFor_60 : decode cX3_wordFor 60 = .ok (.aload_n 0, 1) := by decide +kernel
theorem dX3_wordFor_61 : decode cX3_wordFor 61 = .ok (.aload_n 2, 1) := by decide +kernel
theorem dX3_wordFor_62 : decode cX3_wordFor 62 = .ok (.aload_n 1, 1) := by decide +kernel
theorem dX3_wordFor_63 : decode cX3_wordFor 63 = .ok (.invokevirtual 113, 3) := by decide +kernel
theorem dX3_wordFor_66 : decode cX3_wordFor 66 = .ok (.iconst 1, 1) := by decide +kernel
theorem dX3_wordFor_67 : decode cX3_wordFor 67 = .ok (.ireturn, 1) := by decide +kernel
theorem dX3_takesClear_0 : decode cX3_takesClear 0 = .ok (.aload_n 1, 1) := by decide +kernel
theorem dX3_takesClear_1 : decode cX3_takesClear 1 = .ok (.iconst 2, 1) := by decide +kernel
theorem dX3_takesClear_2 : decode cX3_takesClear 2 = .ok (.invokestatic 38, 3) := by decide +kernel
theorem dX3_takesClear_5 : decode cX3_takesClear 5 = .ok (.astore_n 2, 1) := by decide +kernel
theorem dX3_takesClear_6 : decode cX3_takesClear 6 = .ok (.aload_n 0, 1) := by decide +kernel
theorem dX3_takesClear_7 : decode cX3_takesClear 7 = .ok (.aload_n 1, 1) := by decide +kernel
theorem dX3_takesClear_8 : decode cX3_takesClear 8 = .ok (.aload_n 2, 1) := by decide +kernel
theorem dX3_takesClear_9 : decode cX3_takesClear 9 = .ok (.invokevirtual 42, 3) := by decide +kernel
theorem dX3_takesClear_12 : decode cX3_takesClear 12 = .ok (.ifCond .eq 19, 3) := by decide +kernel
theorem dX3_takesClear_15 : decode cX3_takesClear 15 = .ok (.aload_n 0, 1) := by decide +kernel
theorem dX3_takesClear_16 : decode cX3_takesClear 16 = .ok (.aload_n 2, 1) := by decide +kernel
theorem dX3_takesClear_17 : decode cX3_takesClear 17 = .ok (.invokevirtual 93, 3) := by decide +kernel
theorem dX3_takesClear_20 : decode cX3_takesClear 20 = .ok (.ifCond .eq 11, 3) := by decide +kernel
theorem dX3_takesClear_23 : decode cX3_takesClear 23 = .ok (.aload_n 0, 1) := by decide +kernel
theorem dX3_takesClear_24 : decode cX3_takesClear 24 = .ok (.aload_n 2, 1) := by decide +kernel
theorem dX3_takesClear_25 : decode cX3_takesClear 25 = .ok (.invokevirtual 117, 3) := by decide +kernel
theorem dX3_takesClear_28 : decode cX3_takesClear 28 = .ok (.ifCond .le 5, 3) := by decide +kernel
theorem dX3_takesClear_31 : decode cX3_takesClear 31 = .ok (.iconst 0, 1) := by decide +kernel
theorem dX3_takesClear_32 : decode cX3_takesClear 32 = .ok (.ireturn, 1) := by decide +kernel
theorem dX3_takesClear_33 : decode cX3_takesClear 33 = .ok (.aload_n 0, 1) := by decide +kernel
theorem dX3_takesClear_34 : decode cX3_takesClear 34 = .ok (.aload_n 0, 1) := by decide +kernel
theorem dX3_takesClear_35 : decode cX3_takesClear 35 = .ok (.getfield 12, 3) := by decide +kernel
theorem dX3_takesClear_38 : decode cX3_takesClear 38 = .ok (.aload_n 2, 1) := by decide +kernel
theorem dX3_takesClear_39 : decode cX3_takesClear 39 = .ok (.getfield 60, 3) := by decide +kernel
theorem dX3_takesClear_42 : decode cX3_takesClear 42 = .ok (.invokevirtual 97, 3) := by decide +kernel
theorem dX3_takesClear_45 : decode cX3_takesClear 45 = .ok (.checkcast 101, 3) := by decide +kernel
theorem dX3_takesClear_48 : decode cX3_takesClear 48 = .ok (.aload_n 2, 1) := by decide +kernel
theorem dX3_takesClear_49 : decode cX3_takesClear 49 = .ok (.invokevirtual 113, 3) := by decide +kernel
theorem dX3_takesClear_52 : decode cX3_takesClear 52 = .ok (.iconst 1, 1) := by decide +kernel
theorem dX3_takesClear_53 : decode cX3_takesClear 53 = .ok (.ireturn, 1) := by decide +kernel
theorem dX3_take_0 : decode cX3_take 0 = .ok (.aload_n 1, 1) := by decide +kernel
theorem dX3_take_1 : decode cX3_take 1 = .ok (.dup, 1) := by decide +kernel
theorem dX3_take_2 : decode cX3_take 2 = .ok (.getfield 106, 3) := by decide +kernel
theorem dX3_take_5 : decode cX3_take 5 = .ok (.aload_n 2, 1) := by decide +kernel
theorem dX3_take_6 : decode cX3_take 6 = .ok (.getfield 110, 3) := by decide +kernel
theorem dX3_take_9 : decode cX3_take 9 = .ok (.lsub, 1) := by decide +kernel
theorem dX3_take_10 : decode cX3_take 10 = .ok (.putfield 106, 3) := by decide +kernel
theorem dX3_take_13 : decode cX3_take 13 = .ok (.aload_n 0, 1) := by decide +kernel
theorem dX3_take_14 : decode cX3_take 14 = .ok (.getfield 18, 3) := by decide +kernel
theorem dX3_take_17 : decode cX3_take 17 = .ok (.aload_n 2, 1) := by decide +kernel
theorem dX3_take_18 : decode cX3_take 18 = .ok (.invokevirtual 120, 3) := by decide +kernel
theorem dX3_take_21 : decode cX3_take 21 = .ok (.pop, 1) := by decide +kernel
theorem dX3_take_22 : decode cX3_take 22 = .ok (.return_, 1) := by decide +kernel
theorem dX3_paymentOf_0 : decode cX3_paymentOf 0 = .ok (.new 61, 3) := by decide +kernel
theorem dX3_paymentOf_3 : decode cX3_paymentOf 3 = .ok (.dup, 1) := by decide +kernel
theorem dX3_paymentOf_4 : decode cX3_paymentOf 4 = .ok (.invokespecial 124, 3) := by decide +kernel
theorem dX3_paymentOf_7 : decode cX3_paymentOf 7 = .ok (.astore_n 2, 1) := by decide +kernel
theorem dX3_paymentOf_8 : decode cX3_paymentOf 8 = .ok (.aload_n 2, 1) := by decide +kernel
theorem dX3_paymentOf_9 : decode cX3_paymentOf 9 = .ok (.aload_n 0, 1) := by decide +kernel
theorem dX3_paymentOf_10 : decode cX3_paymentOf 10 = .ok (.iconst 1, 1) := by decide +kernel
theorem dX3_paymentOf_11 : decode cX3_paymentOf 11 = .ok (.invokevirtual 125, 3) := by decide +kernel
theorem dX3_paymentOf_14 : decode cX3_paymentOf 14 = .ok (.putfield 60, 3) := by decide +kernel
theorem dX3_paymentOf_17 : decode cX3_paymentOf 17 = .ok (.aload_n 2, 1) := by decide +kernel
theorem dX3_paymentOf_18 : decode cX3_paymentOf 18 = .ok (.aload_n 0, 1) := by decide +kernel
theorem dX3_paymentOf_19 : decode cX3_paymentOf 19 = .ok (.iconst 2, 1) := by decide +kernel
theorem dX3_paymentOf_20 : decode cX3_paymentOf 20 = .ok (.invokevirtual 125, 3) := by decide +kernel
theorem dX3_paymentOf_23 : decode cX3_paymentOf 23 = .ok (.putfield 65, 3) := by decide +kernel
theorem dX3_paymentOf_26 : decode cX3_paymentOf 26 = .ok (.aload_n 2, 1) := by decide +kernel
theorem dX3_paymentOf_27 : decode cX3_paymentOf 27 = .ok (.aload_n 0, 1) := by decide +kernel
theorem dX3_paymentOf_28 : decode cX3_paymentOf 28 = .ok (.getfield 56, 3) := by decide +kernel
theorem dX3_paymentOf_31 : decode cX3_paymentOf 31 = .ok (.iconst 3, 1) := by decide +kernel
theorem dX3_paymentOf_32 : decode cX3_paymentOf 32 = .ok (.laload, 1) := by decide +kernel
theorem dX3_paymentOf_33 : decode cX3_paymentOf 33 = .ok (.putfield 110, 3) := by decide +kernel
theorem dX3_paymentOf_36 : decode cX3_paymentOf 36 = .ok (.aload_n 2, 1) := by decide +kernel
theorem dX3_paymentOf_37 : decode cX3_paymentOf 37 = .ok (.aload_n 0, 1) := by decide +kernel
theorem dX3_paymentOf_38 : decode cX3_paymentOf 38 = .ok (.getfield 56, 3) := by decide +kernel
theorem dX3_paymentOf_41 : decode cX3_paymentOf 41 = .ok (.iconst 4, 1) := by decide +kernel
theorem dX3_paymentOf_42 : decode cX3_paymentOf 42 = .ok (.laload, 1) := by decide +kernel
theorem dX3_paymentOf_43 : decode cX3_paymentOf 43 = .ok (.putfield 129, 3) := by decide +kernel
theorem dX3_paymentOf_46 : decode cX3_paymentOf 46 = .ok (.aload_n 2, 1) := by decide +kernel
theorem dX3_paymentOf_47 : decode cX3_paymentOf 47 = .ok (.aload_n 0, 1) := by decide +kernel
theorem dX3_paymentOf_48 : decode cX3_paymentOf 48 = .ok (.iconst 5, 1) := by decide +kernel
theorem dX3_paymentOf_49 : decode cX3_paymentOf 49 = .ok (.invokevirtual 125, 3) := by decide +kernel
theorem dX3_paymentOf_52 : decode cX3_paymentOf 52 = .ok (.putfield 86, 3) := by decide +kernel
theorem dX3_paymentOf_55 : decode cX3_paymentOf 55 = .ok (.aload_n 2, 1) := by decide +kernel
theorem dX3_paymentOf_56 : decode cX3_paymentOf 56 = .ok (.aload_n 0, 1) := by decide +kernel
theorem dX3_paymentOf_57 : decode cX3_paymentOf 57 = .ok (.bipush 6, 2) := by decide +kernel
theorem dX3_paymentOf_59 : decode cX3_paymentOf 59 = .ok (.invokevirtual 125, 3) := by decide +kernel
theorem dX3_paymentOf_62 : decode cX3_paymentOf 62 = .ok (.putfield 132, 3) := by decide +kernel
theorem dX3_paymentOf_65 : decode cX3_paymentOf 65 = .ok (.aload_n 2, 1) := by decide +kernel
theorem dX3_paymentOf_66 : decode cX3_paymentOf 66 = .ok (.iload_n 1, 1) := by decide +kernel
theorem dX3_paymentOf_67 : decode cX3_paymentOf 67 = .ok (.putfield 135, 3) := by decide +kernel
theorem dX3_paymentOf_70 : decode cX3_paymentOf 70 = .ok (.aload_n 2, 1) := by decide +kernel
theorem dX3_paymentOf_71 : decode cX3_paymentOf 71 = .ok (.aload_n 0, 1) := by decide +kernel
theorem dX3_paymentOf_72 : decode cX3_paymentOf 72 = .ok (.getfield 56, 3) := by decide +kernel
theorem dX3_paymentOf_75 : decode cX3_paymentOf 75 = .ok (.bipush 8, 2) := by decide +kernel
theorem dX3_paymentOf_77 : decode cX3_paymentOf 77 = .ok (.laload, 1) := by decide +kernel
theorem dX3_paymentOf_78 : decode cX3_paymentOf 78 = .ok (.putfield 138, 3) := by decide +kernel
theorem dX3_paymentOf_81 : decode cX3_paymentOf 81 = .ok (.aload_n 2, 1) := by decide +kernel
theorem dX3_paymentOf_82 : decode cX3_paymentOf 82 = .ok (.areturn, 1) := by decide +kernel
end
section
theorem dX3_isFromTerminal_0 : decode cX3_isFromTerminal 0 = .ok (.aload_n 0, 1) := by decide +kernel
theorem dX3_isFromTerminal_1 : decode cX3_isFromTerminal 1 = .ok (.getfield 21, 3) := by decide +kernel
theorem dX3_isFromTerminal_4 : decode cX3_isFromTerminal 4 = .ok (.aload_n 2, 1) := by decide +kernel
theorem dX3_isFromTerminal_5 : decode cX3_isFromTerminal 5 = .ok (.getfield 86, 3) := by decide +kernel
theorem dX3_isFromTerminal_8 : decode cX3_isFromTerminal 8 = .ok (.invokevirtual 140, 3) := by decide +kernel
theorem dX3_isFromTerminal_11 : decode cX3_isFromTerminal 11 = .ok (.ifCond .eq 35, 3) := by decide +kernel
theorem dX3_isFromTerminal_14 : decode cX3_isFromTerminal 14 = .ok (.aload_n 0, 1) := by decide +kernel
theorem dX3_isFromTerminal_15 : decode cX3_isFromTerminal 15 = .ok (.getfield 21, 3) := by decide +kernel
theorem dX3_isFromTerminal_18 : decode cX3_isFromTerminal 18 = .ok (.getfield 68, 3) := by decide +kernel
theorem dX3_isFromTerminal_21 : decode cX3_isFromTerminal 21 = .ok (.aload_n 1, 1) := by decide +kernel
theorem dX3_isFromTerminal_22 : decode cX3_isFromTerminal 22 = .ok (.getfield 25, 3) := by decide +kernel
theorem dX3_isFromTerminal_25 : decode cX3_isFromTerminal 25 = .ok (.aload_n 2, 1) := by decide +kernel
theorem dX3_isFromTerminal_26 : decode cX3_isFromTerminal 26 = .ok (.invokevirtual 144, 3) := by decide +kernel
theorem dX3_isFromTerminal_29 : decode cX3_isFromTerminal 29 = .ok (.aload_n 1, 1) := by decide +kernel
theorem dX3_isFromTerminal_30 : decode cX3_isFromTerminal 30 = .ok (.getfield 56, 3) := by decide +kernel
theorem dX3_isFromTerminal_33 : decode cX3_isFromTerminal 33 = .ok (.bipush 11, 2) := by decide +kernel
theorem dX3_isFromTerminal_35 : decode cX3_isFromTerminal 35 = .ok (.laload, 1) := by decide +kernel
theorem dX3_isFromTerminal_36 : decode cX3_isFromTerminal 36 = .ok (.invokevirtual 148, 3) := by decide +kernel
theorem dX3_isFromTerminal_39 : decode cX3_isFromTerminal 39 = .ok (.ifCond .eq 7, 3) := by decide +kernel
theorem dX3_isFromTerminal_42 : decode cX3_isFromTerminal 42 = .ok (.iconst 1, 1) := by decide +kernel
theorem dX3_isFromTerminal_43 : decode cX3_isFromTerminal 43 = .ok (.goto 4, 3) := by decide +kernel
theorem dX3_isFromTerminal_46 : decode cX3_isFromTerminal 46 = .ok (.iconst 0, 1) := by decide +kernel
theorem dX3_isFromTerminal_47 : decode cX3_isFromTerminal 47 = .ok (.ireturn, 1) := by decide +kernel
theorem dX3_isAnswerOfCard_0 : decode cX3_isAnswerOfCard 0 = .ok (.aload_n 1, 1) := by decide +kernel
theorem dX3_isAnswerOfCard_1 : decode cX3_isAnswerOfCard 1 = .ok (.getfield 60, 3) := by decide +kernel
theorem dX3_isAnswerOfCard_4 : decode cX3_isAnswerOfCard 4 = .ok (.aload_n 0, 1) := by decide +kernel
theorem dX3_isAnswerOfCard_5 : decode cX3_isAnswerOfCard 5 = .ok (.getfield 12, 3) := by decide +kernel
theorem dX3_isAnswerOfCard_8 : decode cX3_isAnswerOfCard 8 = .ok (.invokevirtual 152, 3) := by decide +kernel
theorem dX3_isAnswerOfCard_11 : decode cX3_isAnswerOfCard 11 = .ok (.if_icmp .ge 28, 3) := by decide +kernel
theorem dX3_isAnswerOfCard_14 : decode cX3_isAnswerOfCard 14 = .ok (.aload_n 0, 1) := by decide +kernel
theorem dX3_isAnswerOfCard_15 : decode cX3_isAnswerOfCard 15 = .ok (.getfield 21, 3) := by decide +kernel
theorem dX3_isAnswerOfCard_18 : decode cX3_isAnswerOfCard 18 = .ok (.getfield 68, 3) := by decide +kernel
theorem dX3_isAnswerOfCard_21 : decode cX3_isAnswerOfCard 21 = .ok (.aload_n 1, 1) := by decide +kernel
theorem dX3_isAnswerOfCard_22 : decode cX3_isAnswerOfCard 22 = .ok (.invokevirtual 156, 3) := by decide +kernel
theorem dX3_isAnswerOfCard_25 : decode cX3_isAnswerOfCard 25 = .ok (.aload_n 1, 1) := by decide +kernel
theorem dX3_isAnswerOfCard_26 : decode cX3_isAnswerOfCard 26 = .ok (.getfield 138, 3) := by decide +kernel
theorem dX3_isAnswerOfCard_29 : decode cX3_isAnswerOfCard 29 = .ok (.invokevirtual 148, 3) := by decide +kernel
theorem dX3_isAnswerOfCard_32 : decode cX3_isAnswerOfCard 32 = .ok (.ifCond .eq 7, 3) := by decide +kernel
theorem dX3_isAnswerOfCard_35 : decode cX3_isAnswerOfCard 35 = .ok (.iconst 1, 1) := by decide +kernel
theorem dX3_isAnswerOfCard_36 : decode cX3_isAnswerOfCard 36 = .ok (.goto 4, 3) := by decide +kernel
theorem dX3_isAnswerOfCard_39 : decode cX3_isAnswerOfCard 39 = .ok (.iconst 0, 1) := by decide +kernel
theorem dX3_isAnswerOfCard_40 : decode cX3_isAnswerOfCard 40 = .ok (.ireturn, 1) := by decide +kernel
theorem dX3_debitsOfCounter_0 : decode cX3_debitsOfCounter 0 = .ok (.iconst 0, 1) := by decide +kernel
theorem dX3_debitsOfCounter_1 : decode cX3_debitsOfCounter 1 = .ok (.istore_n 2, 1) := by decide +kernel
theorem dX3_debitsOfCounter_2 : decode cX3_debitsOfCounter 2 = .ok (.iconst 0, 1) := by decide +kernel
theorem dX3_debitsOfCounter_3 : decode cX3_debitsOfCounter 3 = .ok (.istore_n 3, 1) := by decide +kernel
theorem dX3_debitsOfCounter_4 : decode cX3_debitsOfCounter 4 = .ok (.iload_n 3, 1) := by decide +kernel
theorem dX3_debitsOfCounter_5 : decode cX3_debitsOfCounter 5 = .ok (.aload_n 0, 1) := by decide +kernel
theorem dX3_debitsOfCounter_6 : decode cX3_debitsOfCounter 6 = .ok (.getfield 18, 3) := by decide +kernel
theorem dX3_debitsOfCounter_9 : decode cX3_debitsOfCounter 9 = .ok (.invokevirtual 152, 3) := by decide +kernel
theorem dX3_debitsOfCounter_12 : decode cX3_debitsOfCounter 12 = .ok (.if_icmp .ge 49, 3) := by decide +kernel
theorem dX3_debitsOfCounter_15 : decode cX3_debitsOfCounter 15 = .ok (.aload_n 0, 1) := by decide +kernel
theorem dX3_debitsOfCounter_16 : decode cX3_debitsOfCounter 16 = .ok (.getfield 18, 3) := by decide +kernel
theorem dX3_debitsOfCounter_19 : decode cX3_debitsOfCounter 19 = .ok (.iload_n 3, 1) := by decide +kernel
theorem dX3_debitsOfCounter_20 : decode cX3_debitsOfCounter 20 = .ok (.invokevirtual 97, 3) := by decide +kernel
theorem dX3_debitsOfCounter_23 : decode cX3_debitsOfCounter 23 = .ok (.checkcast 61, 3) := by decide +kernel
theorem dX3_debitsOfCounter_26 : decode cX3_debitsOfCounter 26 = .ok (.astore 4, 2) := by decide +kernel
theorem dX3_debitsOfCounter_28 : decode cX3_debitsOfCounter 28 = .ok (.aload 4, 2) := by decide +kernel
theorem dX3_debitsOfCounter_30 : decode cX3_debitsOfCounter 30 = .ok (.getfield 60, 3) := by decide +kernel
theorem dX3_debitsOfCounter_33 : decode cX3_debitsOfCounter 33 = .ok (.aload_n 1, 1) := by decide +kernel
theorem dX3_debitsOfCounter_34 : decode cX3_debitsOfCounter 34 = .ok (.getfield 60, 3) := by decide +kernel
theorem dX3_debitsOfCounter_37 : decode cX3_debitsOfCounter 37 = .ok (.if_icmp .ne 18, 3) := by decide +kernel
theorem dX3_debitsOfCounter_40 : decode cX3_debitsOfCounter 40 = .ok (.aload 4, 2) := by decide +kernel
theorem dX3_debitsOfCounter_42 : decode cX3_debitsOfCounter 42 = .ok (.getfield 65, 3) := by decide +kernel
theorem dX3_debitsOfCounter_45 : decode cX3_debitsOfCounter 45 = .ok (.aload_n 1, 1) := by decide +kernel
theorem dX3_debitsOfCounter_46 : decode cX3_debitsOfCounter 46 = .ok (.getfield 65, 3) := by decide +kernel
theorem dX3_debitsOfCounter_49 : decode cX3_debitsOfCounter 49 = .ok (.if_icmp .ne 6, 3) := by decide +kernel
theorem dX3_debitsOfCounter_52 : decode cX3_debitsOfCounter 52 = .ok (.iinc 2 1, 3) := by decide +kernel
theorem dX3_debitsOfCounter_55 : decode cX3_debitsOfCounter 55 = .ok (.iinc 3 1, 3) := by decide +kernel
theorem dX3_debitsOfCounter_58 : decode cX3_debitsOfCounter 58 = .ok (.goto (-54), 3) := by decide +kernel
theorem dX3_debitsOfCounter_61 : decode cX3_debitsOfCounter 61 = .ok (.iload_n 2, 1) := by decide +kernel
theorem dX3_debitsOfCounter_62 : decode cX3_debitsOfCounter 62 = .ok (.ireturn, 1) := by decide +kernel
theorem dX4_init_0 : decode cX4_init 0 = .ok (.aload_n 0, 1) := by decide +kernel
theorem dX4_init_1 : decode cX4_init 1 = .ok (.invokespecial 3, 3) := by decide +kernel
theorem dX4_init_4 : decode cX4_init 4 = .ok (.aload_n 0, 1) := by decide +kernel
theorem dX4_init_5 : decode cX4_init 5 = .ok (.bipush 64, 2) := by decide +kernel
theorem dX4_init_7 : decode cX4_init 7 = .ok (.newarray .int, 2) := by decide +kernel
theorem dX4_init_9 : decode cX4_init 9 = .ok (.putfield 9, 3) := by decide +kernel
theorem dX4_init_12 : decode cX4_init 12 = .ok (.return_, 1) := by decide +kernel
theorem dX4_has_0 : decode cX4_has 0 = .ok (.iload_n 1, 1) := by decide +kernel
theorem dX4_has_1 : decode cX4_has 1 = .ok (.ifCond .lt 15, 3) := by decide +kernel
theorem dX4_has_4 : decode cX4_has 4 = .ok (.iload_n 1, 1) := by decide +kernel
theorem dX4_has_5 : decode cX4_has 5 = .ok (.aload_n 0, 1) := by decide +kernel
theorem dX4_has_6 : decode cX4_has 6 = .ok (.getfield 15, 3) := by decide +kernel
theorem dX4_has_9 : decode cX4_has 9 = .ok (.if_icmp .ge 7, 3) := by decide +kernel
theorem dX4_has_12 : decode cX4_has 12 = .ok (.iconst 1, 1) := by decide +kernel
theorem dX4_has_13 : decode cX4_has 13 = .ok (.goto 4, 3) := by decide +kernel
theorem dX4_has_16 : decode cX4_has 16 = .ok (.iconst 0, 1) := by decide +kernel
theorem dX4_has_17 : decode cX4_has 17 = .ok (.ireturn, 1) := by decide +kernel
theorem dX4_copyBytes_0 : decode cX4_copyBytes 0 = .ok (.aload_n 0, 1) := by decide +kernel
theorem dX4_copyBytes_1 : decode cX4_copyBytes 1 = .ok (.iload_n 2, 1) := by decide +kernel
theorem dX4_copyBytes_2 : decode cX4_copyBytes 2 = .ok (.bipush 64, 2) := by decide +kernel
theorem dX4_copyBytes_4 : decode cX4_copyBytes 4 = .ok (.invokestatic 19, 3) := by decide +kernel
theorem dX4_copyBytes_7 : decode cX4_copyBytes 7 = .ok (.putfield 15, 3) := by decide +kernel
theorem dX4_copyBytes_10 : decode cX4_copyBytes 10 = .ok (.aload_n 1, 1) := by decide +kernel
theorem dX4_copyBytes_11 : decode cX4_copyBytes 11 = .ok (.iconst 0, 1) := by decide +kernel
theorem dX4_copyBytes_12 : decode cX4_copyBytes 12 = .ok (.aload_n 0, 1) := by decide +kernel
theorem dX4_copyBytes_13 : decode cX4_copyBytes 13 = .ok (.getfield 9, 3) := by decide +kernel
theorem dX4_copyBytes_16 : decode cX4_copyBytes 16 = .ok (.iconst 0, 1) := by decide +kernel
theorem dX4_copyBytes_17 : decode cX4_copyBytes 17 = .ok (.aload_n 0, 1) := by decide +kernel
theorem dX4_copyBytes_18 : decode cX4_copyBytes 18 = .ok (.getfield 15, 3) := by decide +kernel
theorem dX4_copyBytes_21 : decode cX4_copyBytes 21 = .ok (.invokestatic 25, 3) := by decide +kernel
theorem dX4_copyBytes_24 : decode cX4_copyBytes 24 = .ok (.return_, 1) := by decide +kernel
theorem dX4_write_0 : decode cX4_write 0 = .ok (.aload_n 0, 1) := by decide +kernel
theorem dX4_write_1 : decode cX4_write 1 = .ok (.getfield 9, 3) := by decide +kernel
theorem dX4_write_4 : decode cX4_write 4 = .ok (.iconst 0, 1) := by decide +kernel
theorem dX4_write_5 : decode cX4_write 5 = .ok (.aload_n 1, 1) := by decide +kernel
theorem dX4_write_6 : decode cX4_write 6 = .ok (.getfield 31, 3) := by decide +kernel
theorem dX4_write_9 : decode cX4_write 9 = .ok (.iastore, 1) := by decide +kernel
theorem dX4_write_10 : decode cX4_write 10 = .ok (.aload_n 0, 1) := by decide +kernel
theorem dX4_write_11 : decode cX4_write 11 = .ok (.iconst 1, 1) := by decide +kernel
theorem dX4_write_12 : decode cX4_write 12 = .ok (.putfield 15, 3) := by decide +kernel
theorem dX4_write_15 : decode cX4_write 15 = .ok (.iconst 1, 1) := by decide +kernel
theorem dX4_write_16 : decode cX4_write 16 = .ok (.istore_n 2, 1) := by decide +kernel
theorem dX4_write_17 : decode cX4_write 17 = .ok (.iload_n 2, 1) := by decide +kernel
theorem dX4_write_18 : decode cX4_write 18 = .ok (.bipush 12, 2) := by decide +kernel
theorem dX4_write_20 : decode cX4_write 20 = .ok (.if_icmp .ge 31, 3) := by decide +kernel
theorem dX4_write_23 : decode cX4_write 23 = .ok (.aload_n 1, 1) := by decide +kernel
theorem dX4_write_24 : decode cX4_write 24 = .ok (.getfield 31, 3) := by decide +kernel
theorem dX4_write_27 : decode cX4_write 27 = .ok (.iload_n 2, 1) := by decide +kernel
theorem dX4_write_28 : decode cX4_write 28 = .ok (.invokestatic 36, 3) := by decide +kernel
theorem dX4_write_31 : decode cX4_write 31 = .ok (.ifCond .eq 14, 3) := by decide +kernel
theorem dX4_write_34 : decode cX4_write 34 = .ok (.aload_n 0, 1) := by decide +kernel
theorem dX4_write_35 : decode cX4_write 35 = .ok (.iload_n 2, 1) := by decide +kernel
theorem dX4_write_36 : decode cX4_write 36 = .ok (.aload_n 1, 1) := by decide +kernel
theorem dX4_write_37 : decode cX4_write 37 = .ok (.getfield 40, 3) := by decide +kernel
theorem dX4_write_40 : decode cX4_write 40 = .ok (.iload_n 2, 1) := by decide +kernel
theorem dX4_write_41 : decode cX4_write 41 = .ok (.laload, 1) := by decide +kernel
theorem dX4_write_42 : decode cX4_write 42 = .ok (.invokevirtual 44, 3) := by decide +kernel
theorem dX4_write_45 : decode cX4_write 45 = .ok (.iinc 2 1, 3) := by decide +kernel
theorem dX4_write_48 : decode cX4_write 48 = .ok (.goto (-31), 3) := by decide +kernel
theorem dX4_write_51 : decode cX4_write 51 = .ok (.return_, 1) := by decide +kernel
theorem dX4_writeField_0 : decode cX4_writeField 0 = .ok (.getstatic 48, 3) := by decide +kernel
theorem dX4_writeField_3 : decode cX4_writeField 3 = .ok (.iload_n 1, 1) := by decide +kernel
theorem dX4_writeField_4 : decode cX4_writeField 4 = .ok (.iaload, 1) := by decide +kernel
theorem dX4_writeField_5 : decode cX4_writeField 5 = .ok (.istore 4, 2) := by decide +kernel
theorem dX4_writeField_7 : decode cX4_writeField 7 = .ok (.aload_n 0, 1) := by decide +kernel
theorem dX4_writeField_8 : decode cX4_writeField 8 = .ok (.getfield 15, 3) := by decide +kernel
theorem dX4_writeField_11 : decode cX4_writeField 11 = .ok (.iconst 2, 1) := by decide +kernel
theorem dX4_writeField_12 : decode cX4_writeField 12 = .ok (.iadd, 1) := by decide +kernel
theorem dX4_writeField_13 : decode cX4_writeField 13 = .ok (.iload 4, 2) := by decide +kernel
theorem dX4_writeField_15 : decode cX4_writeField 15 = .ok (.iadd, 1) := by decide +kernel
theorem dX4_writeField_16 : decode cX4_writeField 16 = .ok (.bipush 64, 2) := by decide +kernel
theorem dX4_writeField_18 : decode cX4_writeField 18 = .ok (.if_icmp .le 4, 3) := by decide +kernel
theorem dX4_writeField_21 : decode cX4_writeField 21 = .ok (.return_, 1) := by decide +kernel
theorem dX4_writeField_22 : decode cX4_writeField 22 = .ok (.aload_n 0, 1) := by decide +kernel
theorem dX4_writeField_23 : decode cX4_writeField 23 = .ok (.getfield 9, 3) := by decide +kernel
theorem dX4_writeField_26 : decode cX4_writeField 26 = .ok (.aload_n 0, 1) := by decide +kernel
theorem dX4_writeField_27 : decode cX4_writeField 27 = .ok (.getfield 15, 3) := by decide +kernel
theorem dX4_writeField_30 : decode cX4_writeField 30 = .ok (.iload_n 1, 1) := by decide +kernel
theorem dX4_writeField_31 : decode cX4_writeField 31 = .ok (.iastore, 1) := by decide +kernel
theorem dX4_writeField_32 : decode cX4_writeField 32 = .ok (.aload_n 0, 1) := by decide +kernel
theorem dX4_writeField_33 : decode cX4_writeField 33 = .ok (.getfield 9, 3) := by decide +kernel
theorem dX4_writeField_36 : decode cX4_writeField 36 = .ok (.aload_n 0, 1) := by decide +kernel
theorem dX4_writeField_37 : decode cX4_writeField 37 = .ok (.getfield 15, 3) := by decide +kernel
theorem dX4_writeField_40 : decode cX4_writeField 40 = .ok (.iconst 1, 1) := by decide +kernel
theorem dX4_writeField_41 : decode cX4_writeField 41 = .ok (.iadd, 1) := by decide +kernel
theorem dX4_writeField_42 : decode cX4_writeField 42 = .ok (.iload 4, 2) := by decide +kernel
theorem dX4_writeField_44 : decode cX4_writeField 44 = .ok (.iastore, 1) := by decide +kernel
theorem dX4_writeField_45 : decode cX4_writeField 45 = .ok (.iconst 0, 1) := by decide +kernel
theorem dX4_writeField_46 : decode cX4_writeField 46 = .ok (.istore 5, 2) := by decide +kernel
theorem dX4_writeField_48 : decode cX4_writeField 48 = .ok (.iload 5, 2) := by decide +kernel
theorem dX4_writeField_50 : decode cX4_writeField 50 = .ok (.iload 4, 2) := by decide +kernel
theorem dX4_writeField_52 : decode cX4_writeField 52 = .ok (.if_icmp .ge 40, 3) := by decide +kernel
theorem dX4_writeField_55 : decode cX4_writeField 55 = .ok (.aload_n 0, 1) := by decide +kernel
theorem dX4_writeField_56 : decode cX4_writeField 56 = .ok (.getfield 9, 3) := by decide +kernel
theorem dX4_writeField_59 : decode cX4_writeField 59 = .ok (.aload_n 0, 1) := by decide +kernel
theorem dX4_writeField_60 : decode cX4_writeField 60 = .ok (.getfield 15, 3) := by decide +kernel
theorem dX4_writeField_63 : decode cX4_writeField 63 = .ok (.iconst 2, 1) := by decide +kernel
theorem dX4_writeField_64 : decode cX4_writeField 64 = .ok (.iadd, 1) := by decide +kernel
theorem dX4_writeField_65 : decode cX4_writeField 65 = .ok (.iload 5, 2) := by decide +kernel
theorem dX4_writeField_67 : decode cX4_writeField 67 = .ok (.iadd, 1) := by decide +kernel
theorem dX4_writeField_68 : decode cX4_writeField 68 = .ok (.lload_n 2, 1) := by decide +kernel
theorem dX4_writeField_69 : decode cX4_writeField 69 = .ok (.bipush 8, 2) := by decide +kernel
theorem dX4_writeField_71 : decode cX4_writeField 71 = .ok (.iload 4, 2) := by decide +kernel
theorem dX4_writeField_73 : decode cX4_writeField 73 = .ok (.iconst 1, 1) := by decide +kernel
theorem dX4_writeField_74 : decode cX4_writeField 74 = .ok (.isub, 1) := by decide +kernel
theorem dX4_writeField_75 : decode cX4_writeField 75 = .ok (.iload 5, 2) := by decide +kernel
theorem dX4_writeField_77 : decode cX4_writeField 77 = .ok (.isub, 1) := by decide +kernel
theorem dX4_writeField_78 : decode cX4_writeField 78 = .ok (.imul, 1) := by decide +kernel
theorem dX4_writeField_79 : decode cX4_writeField 79 = .ok (.lshr, 1) := by decide +kernel
theorem dX4_writeField_80 : decode cX4_writeField 80 = .ok (.l2i, 1) := by decide +kernel
theorem dX4_writeField_81 : decode cX4_writeField 81 = .ok (.sipush 255, 3) := by decide +kernel
theorem dX4_writeField_84 : decode cX4_writeField 84 = .ok (.iand, 1) := by decide +kernel
theorem dX4_writeField_85 : decode cX4_writeField 85 = .ok (.iastore, 1) := by decide +kernel
theorem dX4_writeField_86 : decode cX4_writeField 86 = .ok (.iinc 5 1, 3) := by decide +kernel
theorem dX4_writeField_89 : decode cX4_writeField 89 = .ok (.goto (-41), 3) := by decide +kernel
theorem dX4_writeField_92 : decode cX4_writeField 92 = .ok (.aload_n 0, 1) := by decide +kernel
theorem dX4_writeField_93 : decode cX4_writeField 93 = .ok (.dup, 1) := by decide +kernel
theorem dX4_writeField_94 : decode cX4_writeField 94 = .ok (.getfield 15, 3) := by decide +kernel
theorem dX4_writeField_97 : decode cX4_writeField 97 = .ok (.iconst 2, 1) := by decide +kernel
theorem dX4_writeField_98 : decode cX4_writeField 98 = .ok (.iload 4, 2) := by decide +kernel
theorem dX4_writeField_100 : decode cX4_writeField 100 = .ok (.iadd, 1) := by decide +kernel
theorem dX4_writeField_101 : decode cX4_writeField 101 = .ok (.iadd, 1) := by decide +kernel
theorem dX4_writeField_102 : decode cX4_writeField 102 = .ok (.putfield 15, 3) := by decide +kernel
theorem dX4_writeField_105 : decode cX4_writeField 105 = .ok (.return_, 1) := by decide +kernel
theorem dX4_read_0 : decode cX4_read 0 = .ok (.aload_n 0, 1) := by decide +kernel
theorem dX4_read_1 : decode cX4_read 1 = .ok (.getfield 15, 3) := by decide +kernel
theorem dX4_read_4 : decode cX4_read 4 = .ok (.ifCond .eq 24, 3) := by decide +kernel
theorem dX4_read_7 : decode cX4_read 7 = .ok (.aload_n 0, 1) := by decide +kernel
theorem dX4_read_8 : decode cX4_read 8 = .ok (.getfield 9, 3) := by decide +kernel
theorem dX4_read_11 : decode cX4_read 11 = .ok (.iconst 0, 1) := by decide +kernel
theorem dX4_read_12 : decode cX4_read 12 = .ok (.iaload, 1) := by decide +kernel
theorem dX4_read_13 : decode cX4_read 13 = .ok (.iconst 1, 1) := by decide +kernel
theorem dX4_read_14 : decode cX4_read 14 = .ok (.if_icmp .lt 14, 3) := by decide +kernel
theorem dX4_read_17 : decode cX4_read 17 = .ok (.aload_n 0, 1) := by decide +kernel
theorem dX4_read_18 : decode cX4_read 18 = .ok (.getfield 9, 3) := by decide +kernel
theorem dX4_read_21 : decode cX4_read 21 = .ok (.iconst 0, 1) := by decide +kernel
theorem dX4_read_22 : decode cX4_read 22 = .ok (.iaload, 1) := by decide +kernel
theorem dX4_read_23 : decode cX4_read 23 = .ok (.bipush 11, 2) := by decide +kernel
theorem dX4_read_25 : decode cX4_read 25 = .ok (.if_icmp .le 5, 3) := by decide +kernel
theorem dX4_read_28 : decode cX4_read 28 = .ok (.iconst 0, 1) := by decide +kernel
theorem dX4_read_29 : decode cX4_read 29 = .ok (.ireturn, 1) := by decide +kernel
theorem dX4_read_30 : decode cX4_read 30 = .ok (.aload_n 1, 1) := by decide +kernel
theorem dX4_read_31 : decode cX4_read 31 = .ok (.aload_n 0, 1) := by decide +kernel
theorem dX4_read_32 : decode cX4_read 32 = .ok (.getfield 9, 3) := by decide +kernel
theorem dX4_read_35 : decode cX4_read 35 = .ok (.iconst 0, 1) := by decide +kernel
theorem dX4_read_36 : decode cX4_read 36 = .ok (.iaload, 1) := by decide +kernel
theorem dX4_read_37 : decode cX4_read 37 = .ok (.putfield 31, 3) := by decide +kernel
theorem dX4_read_40 : decode cX4_read 40 = .ok (.aload_n 1, 1) := by decide +kernel
theorem dX4_read_41 : decode cX4_read 41 = .ok (.aload_n 0, 1) := by decide +kernel
theorem dX4_read_42 : decode cX4_read 42 = .ok (.getfield 51, 3) := by decide +kernel
theorem dX4_read_45 : decode cX4_read 45 = .ok (.putfield 54, 3) := by decide +kernel
theorem dX4_read_48 : decode cX4_read 48 = .ok (.aload_n 1, 1) := by decide +kernel
theorem dX4_read_49 : decode cX4_read 49 = .ok (.aload_n 0, 1) := by decide +kernel
theorem dX4_read_50 : decode cX4_read 50 = .ok (.getfield 55, 3) := by decide +kernel
theorem dX4_read_53 : decode cX4_read 53 = .ok (.putfield 58, 3) := by decide +kernel
theorem dX4_read_56 : decode cX4_read 56 = .ok (.iconst 1, 1) := by decide +kernel
theorem dX4_read_57 : decode cX4_read 57 = .ok (.istore_n 2, 1) := by decide +kernel
theorem dX4_read_58 : decode cX4_read 58 = .ok (.iconst 1, 1) := by decide +kernel
theorem dX4_read_59 : decode cX4_read 59 = .ok (.istore_n 3, 1) := by decide +kernel
theorem dX4_read_60 : decode cX4_read 60 = .ok (.iload_n 3, 1) := by decide +kernel
theorem dX4_read_61 : decode cX4_read 61 = .ok (.bipush 12, 2) := by decide +kernel
theorem dX4_read_63 : decode cX4_read 63 = .ok (.if_icmp .ge 59, 3) := by decide +kernel
theorem dX4_read_66 : decode cX4_read 66 = .ok (.aload_n 1, 1) := by decide +kernel
theorem dX4_read_67 : decode cX4_read 67 = .ok (.getfield 31, 3) := by decide +kernel
theorem dX4_read_70 : decode cX4_read 70 = .ok (.iload_n 3, 1) := by decide +kernel
theorem dX4_read_71 : decode cX4_read 71 = .ok (.invokestatic 36, 3) := by decide +kernel
theorem dX4_read_74 : decode cX4_read 74 = .ok (.ifCond .eq 42, 3) := by decide +kernel
theorem dX4_read_77 : decode cX4_read 77 = .ok (.aload_n 0, 1) := by decide +kernel
theorem dX4_read_78 : decode cX4_read 78 = .ok (.iload_n 2, 1) := by decide +kernel
theorem dX4_read_79 : decode cX4_read 79 = .ok (.iload_n 3, 1) := by decide +kernel
theorem dX4_read_80 : decode cX4_read 80 = .ok (.invokevirtual 59, 3) := by decide +kernel
theorem dX4_read_83 : decode cX4_read 83 = .ok (.ifCond .ne 5, 3) := by decide +kernel
theorem dX4_read_86 : decode cX4_read 86 = .ok (.iconst 0, 1) := by decide +kernel
theorem dX4_read_87 : decode cX4_read 87 = .ok (.ireturn, 1) := by decide +kernel
theorem dX4_read_88 : decode cX4_read 88 = .ok (.aload_n 1, 1) := by decide +kernel
theorem dX4_read_89 : decode cX4_read 89 = .ok (.getfield 40, 3) := by decide +kernel
theorem dX4_read_92 : decode cX4_read 92 = .ok (.iload_n 3, 1) := by decide +kernel
theorem dX4_read_93 : decode cX4_read 93 = .ok (.aload_n 0, 1) := by decide +kernel
theorem dX4_read_94 : decode cX4_read 94 = .ok (.iload_n 2, 1) := by decide +kernel
theorem dX4_read_95 : decode cX4_read 95 = .ok (.iconst 2, 1) := by decide +kernel
theorem dX4_read_96 : decode cX4_read 96 = .ok (.iadd, 1) := by decide +kernel
theorem dX4_read_97 : decode cX4_read 97 = .ok (.getstatic 48, 3) := by decide +kernel
theorem dX4_read_100 : decode cX4_read 100 = .ok (.iload_n 3, 1) := by decide +kernel
theorem dX4_read_101 : decode cX4_read 101 = .ok (.iaload, 1) := by decide +kernel
theorem dX4_read_102 : decode cX4_read 102 = .ok (.invokevirtual 62, 3) := by decide +kernel
theorem dX4_read_105 : decode cX4_read 105 = .ok (.lastore, 1) := by decide +kernel
theorem dX4_read_106 : decode cX4_read 106 = .ok (.iload_n 2, 1) := by decide +kernel
theorem dX4_read_107 : decode cX4_read 107 = .ok (.iconst 2, 1) := by decide +kernel
theorem dX4_read_108 : decode cX4_read 108 = .ok (.getstatic 48, 3) := by decide +kernel
theorem dX4_read_111 : decode cX4_read 111 = .ok (.iload_n 3, 1) := by decide +kernel
theorem dX4_read_112 : decode cX4_read 112 = .ok (.iaload, 1) := by decide +kernel
theorem dX4_read_113 : decode cX4_read 113 = .ok (.iadd, 1) := by decide +kernel
theorem dX4_read_114 : decode cX4_read 114 = .ok (.iadd, 1) := by decide +kernel
theorem dX4_read_115 : decode cX4_read 115 = .ok (.istore_n 2, 1) := by decide +kernel
theorem dX4_read_116 : decode cX4_read 116 = .ok (.iinc 3 1, 3) := by decide +kernel
theorem dX4_read_119 : decode cX4_read 119 = .ok (.goto (-59), 3) := by decide +kernel
theorem dX4_read_122 : decode cX4_read 122 = .ok (.iload_n 2, 1) := by decide +kernel
theorem dX4_read_123 : decode cX4_read 123 = .ok (.aload_n 0, 1) := by decide +kernel
theorem dX4_read_124 : decode cX4_read 124 = .ok (.getfield 15, 3) := by decide +kernel
theorem dX4_read_127 : decode cX4_read 127 = .ok (.if_icmp .ne 7, 3) := by decide +kernel
theorem dX4_read_130 : decode cX4_read 130 = .ok (.iconst 1, 1) := by decide +kernel
theorem dX4_read_131 : decode cX4_read 131 = .ok (.goto 4, 3) := by decide +kernel
theorem dX4_read_134 : decode cX4_read 134 = .ok (.iconst 0, 1) := by decide +kernel
theorem dX4_read_135 : decode cX4_read 135 = .ok (.ireturn, 1) := by decide +kernel
theorem dX4_isFieldAt_0 : decode cX4_isFieldAt 0 = .ok (.iload_n 1, 1) := by decide +kernel
theorem dX4_isFieldAt_1 : decode cX4_isFieldAt 1 = .ok (.iconst 2, 1) := by decide +kernel
theorem dX4_isFieldAt_2 : decode cX4_isFieldAt 2 = .ok (.iadd, 1) := by decide +kernel
theorem dX4_isFieldAt_3 : decode cX4_isFieldAt 3 = .ok (.getstatic 48, 3) := by decide +kernel
theorem dX4_isFieldAt_6 : decode cX4_isFieldAt 6 = .ok (.iload_n 2, 1) := by decide +kernel
theorem dX4_isFieldAt_7 : decode cX4_isFieldAt 7 = .ok (.iaload, 1) := by decide +kernel
theorem dX4_isFieldAt_8 : decode cX4_isFieldAt 8 = .ok (.iadd, 1) := by decide +kernel
theorem dX4_isFieldAt_9 : decode cX4_isFieldAt 9 = .ok (.aload_n 0, 1) := by decide +kernel
theorem dX4_isFieldAt_10 : decode cX4_isFieldAt 10 = .ok (.getfield 15, 3) := by decide +kernel
theorem dX4_isFieldAt_13 : decode cX4_isFieldAt 13 = .ok (.if_icmp .gt 33, 3) := by decide +kernel
theorem dX4_isFieldAt_16 : decode cX4_isFieldAt 16 = .ok (.aload_n 0, 1) := by decide +kernel
theorem dX4_isFieldAt_17 : decode cX4_isFieldAt 17 = .ok (.getfield 9, 3) := by decide +kernel
theorem dX4_isFieldAt_20 : decode cX4_isFieldAt 20 = .ok (.iload_n 1, 1) := by decide +kernel
theorem dX4_isFieldAt_21 : decode cX4_isFieldAt 21 = .ok (.iaload, 1) := by decide +kernel
theorem dX4_isFieldAt_22 : decode cX4_isFieldAt 22 = .ok (.iload_n 2, 1) := by decide +kernel
theorem dX4_isFieldAt_23 : decode cX4_isFieldAt 23 = .ok (.if_icmp .ne 23, 3) := by decide +kernel
theorem dX4_isFieldAt_26 : decode cX4_isFieldAt 26 = .ok (.aload_n 0, 1) := by decide +kernel
theorem dX4_isFieldAt_27 : decode cX4_isFieldAt 27 = .ok (.getfield 9, 3) := by decide +kernel
theorem dX4_isFieldAt_30 : decode cX4_isFieldAt 30 = .ok (.iload_n 1, 1) := by decide +kernel
theorem dX4_isFieldAt_31 : decode cX4_isFieldAt 31 = .ok (.iconst 1, 1) := by decide +kernel
theorem dX4_isFieldAt_32 : decode cX4_isFieldAt 32 = .ok (.iadd, 1) := by decide +kernel
theorem dX4_isFieldAt_33 : decode cX4_isFieldAt 33 = .ok (.iaload, 1) := by decide +kernel
theorem dX4_isFieldAt_34 : decode cX4_isFieldAt 34 = .ok (.getstatic 48, 3) := by decide +kernel
theorem dX4_isFieldAt_37 : decode cX4_isFieldAt 37 = .ok (.iload_n 2, 1) := by decide +kernel
theorem dX4_isFieldAt_38 : decode cX4_isFieldAt 38 = .ok (.iaload, 1) := by decide +kernel
theorem dX4_isFieldAt_39 : decode cX4_isFieldAt 39 = .ok (.if_icmp .ne 7, 3) := by decide +kernel
theorem dX4_isFieldAt_42 : decode cX4_isFieldAt 42 = .ok (.iconst 1, 1) := by decide +kernel
theorem dX4_isFieldAt_43 : decode cX4_isFieldAt 43 = .ok (.goto 4, 3) := by decide +kernel
theorem dX4_isFieldAt_46 : decode cX4_isFieldAt 46 = .ok (.iconst 0, 1) := by decide +kernel
theorem dX4_isFieldAt_47 : decode cX4_isFieldAt 47 = .ok (.ireturn, 1) := by decide +kernel
theorem dX4_numberAt_0 : decode cX4_numberAt 0 = .ok (.lconst 0, 1) := by decide +kernel
theorem dX4_numberAt_1 : decode cX4_numberAt 1 = .ok (.lstore_n 3, 1) := by decide +kernel
theorem dX4_numberAt_2 : decode cX4_numberAt 2 = .ok (.iconst 0, 1) := by decide +kernel
theorem dX4_numberAt_3 : decode cX4_numberAt 3 = .ok (.istore 5, 2) := by decide +kernel
theorem dX4_numberAt_5 : decode cX4_numberAt 5 = .ok (.iload 5, 2) := by decide +kernel
theorem dX4_numberAt_7 : decode cX4_numberAt 7 = .ok (.iload_n 2, 1) := by decide +kernel
theorem dX4_numberAt_8 : decode cX4_numberAt 8 = .ok (.if_icmp .ge 26, 3) := by decide +kernel
theorem dX4_numberAt_11 : decode cX4_numberAt 11 = .ok (.lload_n 3, 1) := by decide +kernel
theorem dX4_numberAt_12 : decode cX4_numberAt 12 = .ok (.ldc2_w 66, 3) := by decide +kernel
theorem dX4_numberAt_15 : decode cX4_numberAt 15 = .ok (.lmul, 1) := by decide +kernel
theorem dX4_numberAt_16 : decode cX4_numberAt 16 = .ok (.aload_n 0, 1) := by decide +kernel
theorem dX4_numberAt_17 : decode cX4_numberAt 17 = .ok (.getfield 9, 3) := by decide +kernel
theorem dX4_numberAt_20 : decode cX4_numberAt 20 = .ok (.iload_n 1, 1) := by decide +kernel
theorem dX4_numberAt_21 : decode cX4_numberAt 21 = .ok (.iload 5, 2) := by decide +kernel
theorem dX4_numberAt_23 : decode cX4_numberAt 23 = .ok (.iadd, 1) := by decide +kernel
theorem dX4_numberAt_24 : decode cX4_numberAt 24 = .ok (.iaload, 1) := by decide +kernel
theorem dX4_numberAt_25 : decode cX4_numberAt 25 = .ok (.i2l, 1) := by decide +kernel
theorem dX4_numberAt_26 : decode cX4_numberAt 26 = .ok (.ladd, 1) := by decide +kernel
theorem dX4_numberAt_27 : decode cX4_numberAt 27 = .ok (.lstore_n 3, 1) := by decide +kernel
theorem dX4_numberAt_28 : decode cX4_numberAt 28 = .ok (.iinc 5 1, 3) := by decide +kernel
theorem dX4_numberAt_31 : decode cX4_numberAt 31 = .ok (.goto (-26), 3) := by decide +kernel
theorem dX4_numberAt_34 : decode cX4_numberAt 34 = .ok (.lload_n 3, 1) := by decide +kernel
theorem dX4_numberAt_35 : decode cX4_numberAt 35 = .ok (.lreturn, 1) := by decide +kernel
theorem dX4_hasField_0 : decode cX4_hasField 0 = .ok (.getstatic 68, 3) := by decide +kernel
theorem dX4_hasField_3 : decode cX4_hasField 3 = .ok (.iload_n 0, 1) := by decide +kernel
theorem dX4_hasField_4 : decode cX4_hasField 4 = .ok (.iaload, 1) := by decide +kernel
theorem dX4_hasField_5 : decode cX4_hasField 5 = .ok (.iload_n 1, 1) := by decide +kernel
theorem dX4_hasField_6 : decode cX4_hasField 6 = .ok (.ishr, 1) := by decide +kernel
theorem dX4_hasField_7 : decode cX4_hasField 7 = .ok (.iconst 1, 1) := by decide +kernel
theorem dX4_hasField_8 : decode cX4_hasField 8 = .ok (.iand, 1) := by decide +kernel
theorem dX4_hasField_9 : decode cX4_hasField 9 = .ok (.iconst 1, 1) := by decide +kernel
theorem dX4_hasField_10 : decode cX4_hasField 10 = .ok (.if_icmp .ne 7, 3) := by decide +kernel
theorem dX4_hasField_13 : decode cX4_hasField 13 = .ok (.iconst 1, 1) := by decide +kernel
theorem dX4_hasField_14 : decode cX4_hasField 14 = .ok (.goto 4, 3) := by decide +kernel
theorem dX4_hasField_17 : decode cX4_hasField 17 = .ok (.iconst 0, 1) := by decide +kernel
theorem dX4_hasField_18 : decode cX4_hasField 18 = .ok (.ireturn, 1) := by decide +kernel
theorem dX5_init_0 : decode cX5_init 0 = .ok (.aload_n 0, 1) := by decide +kernel
theorem dX5_init_1 : decode cX5_init 1 = .ok (.invokespecial 1, 3) := by decide +kernel
theorem dX5_init_4 : decode cX5_init 4 = .ok (.return_, 1) := by decide +kernel
theorem dX6_init_0 : decode cX6_init 0 = .ok (.aload_n 0, 1) := by decide +kernel
theorem dX6_init_1 : decode cX6_init 1 = .ok (.invokespecial 1, 3) := by decide +kernel
theorem dX6_init_4 : decode cX6_init 4 = .ok (.aload_n 0, 1) := by decide +kernel
theorem dX6_init_5 : decode cX6_init 5 = .ok (.iload_n 1, 1) := by decide +kernel
theorem dX6_init_6 : decode cX6_init 6 = .ok (.putfield 7, 3) := by decide +kernel
theorem dX6_init_9 : decode cX6_init 9 = .ok (.aload_n 0, 1) := by decide +kernel
theorem dX6_init_10 : decode cX6_init 10 = .ok (.iload_n 2, 1) := by decide +kernel
theorem dX6_init_11 : decode cX6_init 11 = .ok (.putfield 13, 3) := by decide +kernel
theorem dX6_init_14 : decode cX6_init 14 = .ok (.aload_n 0, 1) := by decide +kernel
theorem dX6_init_15 : decode cX6_init 15 = .ok (.aload_n 3, 1) := by decide +kernel
theorem dX6_init_16 : decode cX6_init 16 = .ok (.putfield 16, 3) := by decide +kernel
theorem dX6_init_19 : decode cX6_init 19 = .ok (.return_, 1) := by decide +kernel
theorem dX7_init_0 : decode cX7_init 0 = .ok (.aload_n 0, 1) := by decide +kernel
theorem dX7_init_1 : decode cX7_init 1 = .ok (.invokespecial 3, 3) := by decide +kernel
theorem dX7_init_4 : decode cX7_init 4 = .ok (.aload_n 0, 1) := by decide +kernel
theorem dX7_init_5 : decode cX7_init 5 = .ok (.new 9, 3) := by decide +kernel
theorem dX7_init_8 : decode cX7_init 8 = .ok (.dup, 1) := by decide +kernel
theorem dX7_init_9 : decode cX7_init 9 = .ok (.invokespecial 11, 3) := by decide +kernel
theorem dX7_init_12 : decode cX7_init 12 = .ok (.putfield 12, 3) := by decide +kernel
theorem dX7_init_15 : decode cX7_init 15 = .ok (.aload_n 0, 1) := by decide +kernel
theorem dX7_init_16 : decode cX7_init 16 = .ok (.bipush 8, 2) := by decide +kernel
theorem dX7_init_18 : decode cX7_init 18 = .ok (.newarray .long, 2) := by decide +kernel
theorem dX7_init_20 : decode cX7_init 20 = .ok (.putfield 18, 3) := by decide +kernel
theorem dX7_init_23 : decode cX7_init 23 = .ok (.return_, 1) := by decide +kernel
theorem dX7_ofCard_0 : decode cX7_ofCard 0 = .ok (.aload_n 0, 1) := by decide +kernel
theorem dX7_ofCard_1 : decode cX7_ofCard 1 = .ok (.iconst 0, 1) := by decide +kernel
theorem dX7_ofCard_2 : decode cX7_ofCard 2 = .ok (.iload_n 1, 1) := by decide +kernel
theorem dX7_ofCard_3 : decode cX7_ofCard 3 = .ok (.invokevirtual 22, 3) := by decide +kernel
theorem dX7_ofCard_6 : decode cX7_ofCard 6 = .ok (.ldc2_w 26, 3) := by decide +kernel
theorem dX7_ofCard_9 : decode cX7_ofCard 9 = .ok (.invokevirtual 28, 3) := by decide +kernel
theorem dX7_ofCard_12 : decode cX7_ofCard 12 = .ok (.iload_n 1, 1) := by decide +kernel
theorem dX7_ofCard_13 : decode cX7_ofCard 13 = .ok (.i2l, 1) := by decide +kernel
theorem dX7_ofCard_14 : decode cX7_ofCard 14 = .ok (.invokevirtual 28, 3) := by decide +kernel
theorem dX7_ofCard_17 : decode cX7_ofCard 17 = .ok (.iload_n 2, 1) := by decide +kernel
theorem dX7_ofCard_18 : decode cX7_ofCard 18 = .ok (.i2l, 1) := by decide +kernel
theorem dX7_ofCard_19 : decode cX7_ofCard 19 = .ok (.invokevirtual 28, 3) := by decide +kernel
theorem dX7_ofCard_22 : decode cX7_ofCard 22 = .ok (.lload_n 3, 1) := by decide +kernel
theorem dX7_ofCard_23 : decode cX7_ofCard 23 = .ok (.invokevirtual 28, 3) := by decide +kernel
theorem dX7_ofCard_26 : decode cX7_ofCard 26 = .ok (.areturn, 1) := by decide +kernel
theorem dX7_ofAnswer_0 : decode cX7_ofAnswer 0 = .ok (.aload_n 0, 1) := by decide +kernel
theorem dX7_ofAnswer_1 : decode cX7_ofAnswer 1 = .ok (.iconst 0, 1) := by decide +kernel
theorem dX7_ofAnswer_2 : decode cX7_ofAnswer 2 = .ok (.aload_n 1, 1) := by decide +kernel
theorem dX7_ofAnswer_3 : decode cX7_ofAnswer 3 = .ok (.getfield 32, 3) := by decide +kernel
theorem dX7_ofAnswer_6 : decode cX7_ofAnswer 6 = .ok (.invokevirtual 22, 3) := by decide +kernel
theorem dX7_ofAnswer_9 : decode cX7_ofAnswer 9 = .ok (.ldc2_w 38, 3) := by decide +kernel
theorem dX7_ofAnswer_12 : decode cX7_ofAnswer 12 = .ok (.invokevirtual 28, 3) := by decide +kernel
theorem dX7_ofAnswer_15 : decode cX7_ofAnswer 15 = .ok (.aload_n 1, 1) := by decide +kernel
theorem dX7_ofAnswer_16 : decode cX7_ofAnswer 16 = .ok (.getfield 40, 3) := by decide +kernel
theorem dX7_ofAnswer_19 : decode cX7_ofAnswer 19 = .ok (.i2l, 1) := by decide +kernel
theorem dX7_ofAnswer_20 : decode cX7_ofAnswer 20 = .ok (.invokevirtual 28, 3) := by decide +kernel
theorem dX7_ofAnswer_23 : decode cX7_ofAnswer 23 = .ok (.aload_n 1, 1) := by decide +kernel
theorem dX7_ofAnswer_24 : decode cX7_ofAnswer 24 = .ok (.getfield 43, 3) := by decide +kernel
theorem dX7_ofAnswer_27 : decode cX7_ofAnswer 27 = .ok (.invokevirtual 28, 3) := by decide +kernel
theorem dX7_ofAnswer_30 : decode cX7_ofAnswer 30 = .ok (.aload_n 1, 1) := by decide +kernel
theorem dX7_ofAnswer_31 : decode cX7_ofAnswer 31 = .ok (.getfield 47, 3) := by decide +kernel
theorem dX7_ofAnswer_34 : decode cX7_ofAnswer 34 = .ok (.invokevirtual 28, 3) := by decide +kernel
theorem dX7_ofAnswer_37 : decode cX7_ofAnswer 37 = .ok (.aload_n 1, 1) := by decide +kernel
theorem dX7_ofAnswer_38 : decode cX7_ofAnswer 38 = .ok (.getfield 50, 3) := by decide +kernel
theorem dX7_ofAnswer_41 : decode cX7_ofAnswer 41 = .ok (.i2l, 1) := by decide +kernel
theorem dX7_ofAnswer_42 : decode cX7_ofAnswer 42 = .ok (.invokevirtual 28, 3) := by decide +kernel
theorem dX7_ofAnswer_45 : decode cX7_ofAnswer 45 = .ok (.aload_n 1, 1) := by decide +kernel
theorem dX7_ofAnswer_46 : decode cX7_ofAnswer 46 = .ok (.getfield 53, 3) := by decide +kernel
theorem dX7_ofAnswer_49 : decode cX7_ofAnswer 49 = .ok (.i2l, 1) := by decide +kernel
theorem dX7_ofAnswer_50 : decode cX7_ofAnswer 50 = .ok (.invokevirtual 28, 3) := by decide +kernel
theorem dX7_ofAnswer_53 : decode cX7_ofAnswer 53 = .ok (.aload_n 1, 1) := by decide +kernel
theorem dX7_ofAnswer_54 : decode cX7_ofAnswer 54 = .ok (.getfield 56, 3) := by decide +kernel
theorem dX7_ofAnswer_57 : decode cX7_ofAnswer 57 = .ok (.i2l, 1) := by decide +kernel
theorem dX7_ofAnswer_58 : decode cX7_ofAnswer 58 = .ok (.invokevirtual 28, 3) := by decide +kernel
theorem dX7_ofAnswer_61 : decode cX7_ofAnswer 61 = .ok (.areturn, 1) := by decide +kernel
theorem dX7_ofLast_0 : decode cX7_ofLast 0 = .ok (.aload_n 0, 1) := by decide +kernel
theorem dX7_ofLast_1 : decode cX7_ofLast 1 = .ok (.iconst 0, 1) := by decide +kernel
theorem dX7_ofLast_2 : decode cX7_ofLast 2 = .ok (.aload_n 1, 1) := by decide +kernel
theorem dX7_ofLast_3 : decode cX7_ofLast 3 = .ok (.getfield 32, 3) := by decide +kernel
theorem dX7_ofLast_6 : decode cX7_ofLast 6 = .ok (.invokevirtual 22, 3) := by decide +kernel
theorem dX7_ofLast_9 : decode cX7_ofLast 9 = .ok (.ldc2_w 59, 3) := by decide +kernel
theorem dX7_ofLast_12 : decode cX7_ofLast 12 = .ok (.invokevirtual 28, 3) := by decide +kernel
theorem dX7_ofLast_15 : decode cX7_ofLast 15 = .ok (.iload_n 2, 1) := by decide +kernel
theorem dX7_ofLast_16 : decode cX7_ofLast 16 = .ok (.i2l, 1) := by decide +kernel
theorem dX7_ofLast_17 : decode cX7_ofLast 17 = .ok (.invokevirtual 28, 3) := by decide +kernel
theorem dX7_ofLast_20 : decode cX7_ofLast 20 = .ok (.aload_n 1, 1) := by decide +kernel
theorem dX7_ofLast_21 : decode cX7_ofLast 21 = .ok (.getfield 43, 3) := by decide +kernel
theorem dX7_ofLast_24 : decode cX7_ofLast 24 = .ok (.invokevirtual 28, 3) := by decide +kernel
theorem dX7_ofLast_27 : decode cX7_ofLast 27 = .ok (.aload_n 1, 1) := by decide +kernel
theorem dX7_ofLast_28 : decode cX7_ofLast 28 = .ok (.getfield 47, 3) := by decide +kernel
theorem dX7_ofLast_31 : decode cX7_ofLast 31 = .ok (.invokevirtual 28, 3) := by decide +kernel
theorem dX7_ofLast_34 : decode cX7_ofLast 34 = .ok (.aload_n 1, 1) := by decide +kernel
theorem dX7_ofLast_35 : decode cX7_ofLast 35 = .ok (.getfield 50, 3) := by decide +kernel
theorem dX7_ofLast_38 : decode cX7_ofLast 38 = .ok (.i2l, 1) := by decide +kernel
theorem dX7_ofLast_39 : decode cX7_ofLast 39 = .ok (.invokevirtual 28, 3) := by decide +kernel
theorem dX7_ofLast_42 : decode cX7_ofLast 42 = .ok (.aload_n 1, 1) := by decide +kernel
theorem dX7_ofLast_43 : decode cX7_ofLast 43 = .ok (.getfield 53, 3) := by decide +kernel
theorem dX7_ofLast_46 : decode cX7_ofLast 46 = .ok (.i2l, 1) := by decide +kernel
theorem dX7_ofLast_47 : decode cX7_ofLast 47 = .ok (.invokevirtual 28, 3) := by decide +kernel
theorem dX7_ofLast_50 : decode cX7_ofLast 50 = .ok (.areturn, 1) := by decide +kernel
theorem dX7_ofTerminal_0 : decode cX7_ofTerminal 0 = .ok (.aload_n 0, 1) := by decide +kernel
theorem dX7_ofTerminal_1 : decode cX7_ofTerminal 1 = .ok (.iconst 1, 1) := by decide +kernel
theorem dX7_ofTerminal_2 : decode cX7_ofTerminal 2 = .ok (.aload_n 2, 1) := by decide +kernel
theorem dX7_ofTerminal_3 : decode cX7_ofTerminal 3 = .ok (.getfield 50, 3) := by decide +kernel
theorem dX7_ofTerminal_6 : decode cX7_ofTerminal 6 = .ok (.invokevirtual 22, 3) := by decide +kernel
theorem dX7_ofTerminal_9 : decode cX7_ofTerminal 9 = .ok (.iload_n 1, 1) := by decide +kernel
theorem dX7_ofTerminal_10 : decode cX7_ofTerminal 10 = .ok (.i2l, 1) := by decide +kernel
theorem dX7_ofTerminal_11 : decode cX7_ofTerminal 11 = .ok (.invokevirtual 28, 3) := by decide +kernel
theorem dX7_ofTerminal_14 : decode cX7_ofTerminal 14 = .ok (.aload_n 2, 1) := by decide +kernel
theorem dX7_ofTerminal_15 : decode cX7_ofTerminal 15 = .ok (.getfield 32, 3) := by decide +kernel
theorem dX7_ofTerminal_18 : decode cX7_ofTerminal 18 = .ok (.i2l, 1) := by decide +kernel
theorem dX7_ofTerminal_19 : decode cX7_ofTerminal 19 = .ok (.invokevirtual 28, 3) := by decide +kernel
theorem dX7_ofTerminal_22 : decode cX7_ofTerminal 22 = .ok (.aload_n 2, 1) := by decide +kernel
theorem dX7_ofTerminal_23 : decode cX7_ofTerminal 23 = .ok (.getfield 53, 3) := by decide +kernel
theorem dX7_ofTerminal_26 : decode cX7_ofTerminal 26 = .ok (.i2l, 1) := by decide +kernel
theorem dX7_ofTerminal_27 : decode cX7_ofTerminal 27 = .ok (.invokevirtual 28, 3) := by decide +kernel
theorem dX7_ofTerminal_30 : decode cX7_ofTerminal 30 = .ok (.aload_n 2, 1) := by decide +kernel
theorem dX7_ofTerminal_31 : decode cX7_ofTerminal 31 = .ok (.getfield 43, 3) := by decide +kernel
theorem dX7_ofTerminal_34 : decode cX7_ofTerminal 34 = .ok (.invokevirtual 28, 3) := by decide +kernel
theorem dX7_ofTerminal_37 : decode cX7_ofTerminal 37 = .ok (.aload_n 2, 1) := by decide +kernel
theorem dX7_ofTerminal_38 : decode cX7_ofTerminal 38 = .ok (.getfield 47, 3) := by decide +kernel
theorem dX7_ofTerminal_41 : decode cX7_ofTerminal 41 = .ok (.invokevirtual 28, 3) := by decide +kernel
theorem dX7_ofTerminal_44 : decode cX7_ofTerminal 44 = .ok (.aload_n 2, 1) := by decide +kernel
theorem dX7_ofTerminal_45 : decode cX7_ofTerminal 45 = .ok (.getfield 50, 3) := by decide +kernel
theorem dX7_ofTerminal_48 : decode cX7_ofTerminal 48 = .ok (.i2l, 1) := by decide +kernel
theorem dX7_ofTerminal_49 : decode cX7_ofTerminal 49 = .ok (.invokevirtual 28, 3) := by decide +kernel
theorem dX7_ofTerminal_52 : decode cX7_ofTerminal 52 = .ok (.aload_n 2, 1) := by decide +kernel
theorem dX7_ofTerminal_53 : decode cX7_ofTerminal 53 = .ok (.getfield 56, 3) := by decide +kernel
theorem dX7_ofTerminal_56 : decode cX7_ofTerminal 56 = .ok (.i2l, 1) := by decide +kernel
theorem dX7_ofTerminal_57 : decode cX7_ofTerminal 57 = .ok (.invokevirtual 28, 3) := by decide +kernel
theorem dX7_ofTerminal_60 : decode cX7_ofTerminal 60 = .ok (.aload_n 2, 1) := by decide +kernel
theorem dX7_ofTerminal_61 : decode cX7_ofTerminal 61 = .ok (.getfield 61, 3) := by decide +kernel
theorem dX7_ofTerminal_64 : decode cX7_ofTerminal 64 = .ok (.invokevirtual 28, 3) := by decide +kernel
theorem dX7_ofTerminal_67 : decode cX7_ofTerminal 67 = .ok (.areturn, 1) := by decide +kernel
theorem dX7_ofWordToCard_0 : decode cX7_ofWordToCard 0 = .ok (.aload_n 0, 1) := by decide +kernel
theorem dX7_ofWordToCard_1 : decode cX7_ofWordToCard 1 = .ok (.iconst 2, 1) := by decide +kernel
theorem dX7_ofWordToCard_2 : decode cX7_ofWordToCard 2 = .ok (.iload_n 1, 1) := by decide +kernel
theorem dX7_ofWordToCard_3 : decode cX7_ofWordToCard 3 = .ok (.invokevirtual 22, 3) := by decide +kernel
theorem dX7_ofWordToCard_6 : decode cX7_ofWordToCard 6 = .ok (.ldc2_w 64, 3) := by decide +kernel
theorem dX7_ofWordToCard_9 : decode cX7_ofWordToCard 9 = .ok (.invokevirtual 28, 3) := by decide +kernel
theorem dX7_ofWordToCard_12 : decode cX7_ofWordToCard 12 = .ok (.iload_n 1, 1) := by decide +kernel
theorem dX7_ofWordToCard_13 : decode cX7_ofWordToCard 13 = .ok (.i2l, 1) := by decide +kernel
theorem dX7_ofWordToCard_14 : decode cX7_ofWordToCard 14 = .ok (.invokevirtual 28, 3) := by decide +kernel
theorem dX7_ofWordToCard_17 : decode cX7_ofWordToCard 17 = .ok (.iload_n 2, 1) := by decide +kernel
theorem dX7_ofWordToCard_18 : decode cX7_ofWordToCard 18 = .ok (.i2l, 1) := by decide +kernel
theorem dX7_ofWordToCard_19 : decode cX7_ofWordToCard 19 = .ok (.invokevirtual 28, 3) := by decide +kernel
theorem dX7_ofWordToCard_22 : decode cX7_ofWordToCard 22 = .ok (.iload_n 3, 1) := by decide +kernel
theorem dX7_ofWordToCard_23 : decode cX7_ofWordToCard 23 = .ok (.i2l, 1) := by decide +kernel
theorem dX7_ofWordToCard_24 : decode cX7_ofWordToCard 24 = .ok (.invokevirtual 28, 3) := by decide +kernel
theorem dX7_ofWordToCard_27 : decode cX7_ofWordToCard 27 = .ok (.areturn, 1) := by decide +kernel
theorem dX7_ofWordToTerminal_0 : decode cX7_ofWordToTerminal 0 = .ok (.aload_n 0, 1) := by decide +kernel
theorem dX7_ofWordToTerminal_1 : decode cX7_ofWordToTerminal 1 = .ok (.iconst 1, 1) := by decide +kernel
theorem dX7_ofWordToTerminal_2 : decode cX7_ofWordToTerminal 2 = .ok (.aload_n 1, 1) := by decide +kernel
theorem dX7_ofWordToTerminal_3 : decode cX7_ofWordToTerminal 3 = .ok (.getfield 50, 3) := by decide +kernel
theorem dX7_ofWordToTerminal_6 : decode cX7_ofWordToTerminal 6 = .ok (.invokevirtual 22, 3) := by decide +kernel
theorem dX7_ofWordToTerminal_9 : decode cX7_ofWordToTerminal 9 = .ok (.ldc2_w 64, 3) := by decide +kernel
theorem dX7_ofWordToTerminal_12 : decode cX7_ofWordToTerminal 12 = .ok (.invokevirtual 28, 3) := by decide +kernel
theorem dX7_ofWordToTerminal_15 : decode cX7_ofWordToTerminal 15 = .ok (.aload_n 1, 1) := by decide +kernel
theorem dX7_ofWordToTerminal_16 : decode cX7_ofWordToTerminal 16 = .ok (.getfield 32, 3) := by decide +kernel
theorem dX7_ofWordToTerminal_19 : decode cX7_ofWordToTerminal 19 = .ok (.i2l, 1) := by decide +kernel
theorem dX7_ofWordToTerminal_20 : decode cX7_ofWordToTerminal 20 = .ok (.invokevirtual 28, 3) := by decide +kernel
theorem dX7_ofWordToTerminal_23 : decode cX7_ofWordToTerminal 23 = .ok (.aload_n 1, 1) := by decide +kernel
theorem dX7_ofWordToTerminal_24 : decode cX7_ofWordToTerminal 24 = .ok (.getfield 53, 3) := by decide +kernel
theorem dX7_ofWordToTerminal_27 : decode cX7_ofWordToTerminal 27 = .ok (.i2l, 1) := by decide +kernel
theorem dX7_ofWordToTerminal_28 : decode cX7_ofWordToTerminal 28 = .ok (.invokevirtual 28, 3) := by decide +kernel
theorem dX7_ofWordToTerminal_31 : decode cX7_ofWordToTerminal 31 = .ok (.iload_n 2, 1) := by decide +kernel
theorem dX7_ofWordToTerminal_32 : decode cX7_ofWordToTerminal 32 = .ok (.i2l, 1) := by decide +kernel
theorem dX7_ofWordToTerminal_33 : decode cX7_ofWordToTerminal 33 = .ok (.invokevirtual 28, 3) := by decide +kernel
theorem dX7_ofWordToTerminal_36 : decode cX7_ofWordToTerminal 36 = .ok (.aload_n 1, 1) := by decide +kernel
theorem dX7_ofWordToTerminal_37 : decode cX7_ofWordToTerminal 37 = .ok (.getfield 43, 3) := by decide +kernel
theorem dX7_ofWordToTerminal_40 : decode cX7_ofWordToTerminal 40 = .ok (.invokevirtual 28, 3) := by decide +kernel
theorem dX7_ofWordToTerminal_43 : decode cX7_ofWordToTerminal 43 = .ok (.areturn, 1) := by decide +kernel
theorem dX7_seal_0 : decode cX7_seal 0 = .ok (.iconst 0, 1) := by decide +kernel
theorem dX7_seal_1 : decode cX7_seal 1 = .ok (.istore_n 1, 1) := by decide +kernel
theorem dX7_seal_2 : decode cX7_seal 2 = .ok (.iload_n 1, 1) := by decide +kernel
theorem dX7_seal_3 : decode cX7_seal 3 = .ok (.aload_n 0, 1) := by decide +kernel
theorem dX7_seal_4 : decode cX7_seal 4 = .ok (.getfield 12, 3) := by decide +kernel
theorem dX7_seal_7 : decode cX7_seal 7 = .ok (.invokevirtual 66, 3) := by decide +kernel
theorem dX7_seal_10 : decode cX7_seal 10 = .ok (.if_icmp .ge 32, 3) := by decide +kernel
theorem dX7_seal_13 : decode cX7_seal 13 = .ok (.aload_n 0, 1) := by decide +kernel
theorem dX7_seal_14 : decode cX7_seal 14 = .ok (.aload_n 0, 1) := by decide +kernel
theorem dX7_seal_15 : decode cX7_seal 15 = .ok (.getfield 12, 3) := by decide +kernel
theorem dX7_seal_18 : decode cX7_seal 18 = .ok (.iload_n 1, 1) := by decide +kernel
theorem dX7_seal_19 : decode cX7_seal 19 = .ok (.invokevirtual 70, 3) := by decide +kernel
theorem dX7_seal_22 : decode cX7_seal 22 = .ok (.checkcast 74, 3) := by decide +kernel
theorem dX7_seal_25 : decode cX7_seal 25 = .ok (.invokevirtual 76, 3) := by decide +kernel
theorem dX7_seal_28 : decode cX7_seal 28 = .ok (.ifCond .eq 8, 3) := by decide +kernel
theorem dX7_seal_31 : decode cX7_seal 31 = .ok (.iload_n 1, 1) := by decide +kernel
theorem dX7_seal_32 : decode cX7_seal 32 = .ok (.iconst 1, 1) := by decide +kernel
theorem dX7_seal_33 : decode cX7_seal 33 = .ok (.iadd, 1) := by decide +kernel
theorem dX7_seal_34 : decode cX7_seal 34 = .ok (.i2l, 1) := by decide +kernel
theorem dX7_seal_35 : decode cX7_seal 35 = .ok (.lreturn, 1) := by decide +kernel
theorem dX7_seal_36 : decode cX7_seal 36 = .ok (.iinc 1 1, 3) := by decide +kernel
theorem dX7_seal_39 : decode cX7_seal 39 = .ok (.goto (-37), 3) := by decide +kernel
theorem dX7_seal_42 : decode cX7_seal 42 = .ok (.aload_n 0, 1) := by decide +kernel
theorem dX7_seal_43 : decode cX7_seal 43 = .ok (.getfield 12, 3) := by decide +kernel
theorem dX7_seal_46 : decode cX7_seal 46 = .ok (.new 74, 3) := by decide +kernel
theorem dX7_seal_49 : decode cX7_seal 49 = .ok (.dup, 1) := by decide +kernel
theorem dX7_seal_50 : decode cX7_seal 50 = .ok (.aload_n 0, 1) := by decide +kernel
theorem dX7_seal_51 : decode cX7_seal 51 = .ok (.getfield 80, 3) := by decide +kernel
theorem dX7_seal_54 : decode cX7_seal 54 = .ok (.aload_n 0, 1) := by decide +kernel
theorem dX7_seal_55 : decode cX7_seal 55 = .ok (.getfield 83, 3) := by decide +kernel
theorem dX7_seal_58 : decode cX7_seal 58 = .ok (.aload_n 0, 1) := by decide +kernel
theorem dX7_seal_59 : decode cX7_seal 59 = .ok (.getfield 18, 3) := by decide +kernel
theorem dX7_seal_62 : decode cX7_seal 62 = .ok (.aload_n 0, 1) := by decide +kernel
theorem dX7_seal_63 : decode cX7_seal 63 = .ok (.getfield 86, 3) := by decide +kernel
theorem dX7_seal_66 : decode cX7_seal 66 = .ok (.invokestatic 88, 3) := by decide +kernel
theorem dX7_seal_69 : decode cX7_seal 69 = .ok (.invokespecial 94, 3) := by decide +kernel
theorem dX7_seal_72 : decode cX7_seal 72 = .ok (.invokevirtual 97, 3) := by decide +kernel
theorem dX7_seal_75 : decode cX7_seal 75 = .ok (.pop, 1) := by decide +kernel
theorem dX7_seal_76 : decode cX7_seal 76 = .ok (.aload_n 0, 1) := by decide +kernel
theorem dX7_seal_77 : decode cX7_seal 77 = .ok (.getfield 12, 3) := by decide +kernel
theorem dX7_seal_80 : decode cX7_seal 80 = .ok (.invokevirtual 66, 3) := by decide +kernel
theorem dX7_seal_83 : decode cX7_seal 83 = .ok (.i2l, 1) := by decide +kernel
theorem dX7_seal_84 : decode cX7_seal 84 = .ok (.lreturn, 1) := by decide +kernel
theorem dX7_isGood_0 : decode cX7_isGood 0 = .ok (.lload_n 1, 1) := by decide +kernel
theorem dX7_isGood_1 : decode cX7_isGood 1 = .ok (.lconst 1, 1) := by decide +kernel
theorem dX7_isGood_2 : decode cX7_isGood 2 = .ok (.lcmp, 1) := by decide +kernel
theorem dX7_isGood_3 : decode cX7_isGood 3 = .ok (.ifCond .lt 41, 3) := by decide +kernel
theorem dX7_isGood_6 : decode cX7_isGood 6 = .ok (.lload_n 1, 1) := by decide +kernel
theorem dX7_isGood_7 : decode cX7_isGood 7 = .ok (.aload_n 0, 1) := by decide +kernel
theorem dX7_isGood_8 : decode cX7_isGood 8 = .ok (.getfield 12, 3) := by decide +kernel
theorem dX7_isGood_11 : decode cX7_isGood 11 = .ok (.invokevirtual 66, 3) := by decide +kernel
theorem dX7_isGood_14 : decode cX7_isGood 14 = .ok (.i2l, 1) := by decide +kernel
theorem dX7_isGood_15 : decode cX7_isGood 15 = .ok (.lcmp, 1) := by decide +kernel
theorem dX7_isGood_16 : decode cX7_isGood 16 = .ok (.ifCond .gt 28, 3) := by decide +kernel
theorem dX7_isGood_19 : decode cX7_isGood 19 = .ok (.aload_n 0, 1) := by decide +kernel
theorem dX7_isGood_20 : decode cX7_isGood 20 = .ok (.aload_n 0, 1) := by decide +kernel
theorem dX7_isGood_21 : decode cX7_isGood 21 = .ok (.getfield 12, 3) := by decide +kernel
theorem dX7_isGood_24 : decode cX7_isGood 24 = .ok (.lload_n 1, 1) := by decide +kernel
theorem dX7_isGood_25 : decode cX7_isGood 25 = .ok (.l2i, 1) := by decide +kernel
theorem dX7_isGood_26 : decode cX7_isGood 26 = .ok (.iconst 1, 1) := by decide +kernel
theorem dX7_isGood_27 : decode cX7_isGood 27 = .ok (.isub, 1) := by decide +kernel
theorem dX7_isGood_28 : decode cX7_isGood 28 = .ok (.invokevirtual 70, 3) := by decide +kernel
theorem dX7_isGood_31 : decode cX7_isGood 31 = .ok (.checkcast 74, 3) := by decide +kernel
theorem dX7_isGood_34 : decode cX7_isGood 34 = .ok (.invokevirtual 76, 3) := by decide +kernel
theorem dX7_isGood_37 : decode cX7_isGood 37 = .ok (.ifCond .eq 7, 3) := by decide +kernel
theorem dX7_isGood_40 : decode cX7_isGood 40 = .ok (.iconst 1, 1) := by decide +kernel
theorem dX7_isGood_41 : decode cX7_isGood 41 = .ok (.goto 4, 3) := by decide +kernel
theorem dX7_isGood_44 : decode cX7_isGood 44 = .ok (.iconst 0, 1) := by decide +kernel
theorem dX7_isGood_45 : decode cX7_isGood 45 = .ok (.ireturn, 1) := by decide +kernel
theorem dX7_key_0 : decode cX7_key 0 = .ok (.aload_n 0, 1) := by decide +kernel
theorem dX7_key_1 : decode cX7_key 1 = .ok (.iload_n 1, 1) := by decide +kernel
theorem dX7_key_2 : decode cX7_key 2 = .ok (.putfield 80, 3) := by decide +kernel
theorem dX7_key_5 : decode cX7_key 5 = .ok (.aload_n 0, 1) := by decide +kernel
theorem dX7_key_6 : decode cX7_key 6 = .ok (.iload_n 2, 1) := by decide +kernel
theorem dX7_key_7 : decode cX7_key 7 = .ok (.putfield 83, 3) := by decide +kernel
theorem dX7_key_10 : decode cX7_key 10 = .ok (.aload_n 0, 1) := by decide +kernel
theorem dX7_key_11 : decode cX7_key 11 = .ok (.iconst 0, 1) := by decide +kernel
theorem dX7_key_12 : decode cX7_key 12 = .ok (.putfield 86, 3) := by decide +kernel
theorem dX7_key_15 : decode cX7_key 15 = .ok (.aload_n 0, 1) := by decide +kernel
theorem dX7_key_16 : decode cX7_key 16 = .ok (.areturn, 1) := by decide +kernel
theorem dX7_with_0 : decode cX7_with 0 = .ok (.aload_n 0, 1) := by decide +kernel
theorem dX7_with_1 : decode cX7_with 1 = .ok (.getfield 86, 3) := by decide +kernel
theorem dX7_with_4 : decode cX7_with 4 = .ok (.bipush 8, 2) := by decide +kernel
theorem dX7_with_6 : decode cX7_with 6 = .ok (.if_icmp .ge 23, 3) := by decide +kernel
theorem dX7_with_9 : decode cX7_with 9 = .ok (.aload_n 0, 1) := by decide +kernel
theorem dX7_with_10 : decode cX7_with 10 = .ok (.getfield 18, 3) := by decide +kernel
theorem dX7_with_13 : decode cX7_with 13 = .ok (.aload_n 0, 1) := by decide +kernel
theorem dX7_with_14 : decode cX7_with 14 = .ok (.getfield 86, 3) := by decide +kernel
theorem dX7_with_17 : decode cX7_with 17 = .ok (.lload_n 1, 1) := by decide +kernel
theorem dX7_with_18 : decode cX7_with 18 = .ok (.lastore, 1) := by decide +kernel
theorem dX7_with_19 : decode cX7_with 19 = .ok (.aload_n 0, 1) := by decide +kernel
theorem dX7_with_20 : decode cX7_with 20 = .ok (.dup, 1) := by decide +kernel
theorem dX7_with_21 : decode cX7_with 21 = .ok (.getfield 86, 3) := by decide +kernel
theorem dX7_with_24 : decode cX7_with 24 = .ok (.iconst 1, 1) := by decide +kernel
theorem dX7_with_25 : decode cX7_with 25 = .ok (.iadd, 1) := by decide +kernel
theorem dX7_with_26 : decode cX7_with 26 = .ok (.putfield 86, 3) := by decide +kernel
theorem dX7_with_29 : decode cX7_with 29 = .ok (.aload_n 0, 1) := by decide +kernel
theorem dX7_with_30 : decode cX7_with 30 = .ok (.areturn, 1) := by decide +kernel
theorem dX7_isTheirs_0 : decode cX7_isTheirs 0 = .ok (.aload_n 1, 1) := by decide +kernel
theorem dX7_isTheirs_1 : decode cX7_isTheirs 1 = .ok (.getfield 101, 3) := by decide +kernel
theorem dX7_isTheirs_4 : decode cX7_isTheirs 4 = .ok (.aload_n 0, 1) := by decide +kernel
theorem dX7_isTheirs_5 : decode cX7_isTheirs 5 = .ok (.getfield 80, 3) := by decide +kernel
theorem dX7_isTheirs_8 : decode cX7_isTheirs 8 = .ok (.if_icmp .ne 26, 3) := by decide +kernel
theorem dX7_isTheirs_11 : decode cX7_isTheirs 11 = .ok (.aload_n 1, 1) := by decide +kernel
theorem dX7_isTheirs_12 : decode cX7_isTheirs 12 = .ok (.getfield 102, 3) := by decide +kernel
theorem dX7_isTheirs_15 : decode cX7_isTheirs 15 = .ok (.aload_n 0, 1) := by decide +kernel
theorem dX7_isTheirs_16 : decode cX7_isTheirs 16 = .ok (.getfield 83, 3) := by decide +kernel
theorem dX7_isTheirs_19 : decode cX7_isTheirs 19 = .ok (.if_icmp .ne 15, 3) := by decide +kernel
theorem dX7_isTheirs_22 : decode cX7_isTheirs 22 = .ok (.aload_n 1, 1) := by decide +kernel
theorem dX7_isTheirs_23 : decode cX7_isTheirs 23 = .ok (.getfield 103, 3) := by decide +kernel
theorem dX7_isTheirs_26 : decode cX7_isTheirs 26 = .ok (.arraylength, 1) := by decide +kernel
theorem dX7_isTheirs_27 : decode cX7_isTheirs 27 = .ok (.aload_n 0, 1) := by decide +kernel
theorem dX7_isTheirs_28 : decode cX7_isTheirs 28 = .ok (.getfield 86, 3) := by decide +kernel
theorem dX7_isTheirs_31 : decode cX7_isTheirs 31 = .ok (.if_icmp .eq 5, 3) := by decide +kernel
theorem dX7_isTheirs_34 : decode cX7_isTheirs 34 = .ok (.iconst 0, 1) := by decide +kernel
theorem dX7_isTheirs_35 : decode cX7_isTheirs 35 = .ok (.ireturn, 1) := by decide +kernel
theorem dX7_isTheirs_36 : decode cX7_isTheirs 36 = .ok (.iconst 0, 1) := by decide +kernel
theorem dX7_isTheirs_37 : decode cX7_isTheirs 37 = .ok (.istore_n 2, 1) := by decide +kernel
theorem dX7_isTheirs_38 : decode cX7_isTheirs 38 = .ok (.iload_n 2, 1) := by decide +kernel
theorem dX7_isTheirs_39 : decode cX7_isTheirs 39 = .ok (.aload_n 0, 1) := by decide +kernel
theorem dX7_isTheirs_40 : decode cX7_isTheirs 40 = .ok (.getfield 86, 3) := by decide +kernel
theorem dX7_isTheirs_43 : decode cX7_isTheirs 43 = .ok (.if_icmp .ge 27, 3) := by decide +kernel
theorem dX7_isTheirs_46 : decode cX7_isTheirs 46 = .ok (.aload_n 1, 1) := by decide +kernel
theorem dX7_isTheirs_47 : decode cX7_isTheirs 47 = .ok (.getfield 103, 3) := by decide +kernel
theorem dX7_isTheirs_50 : decode cX7_isTheirs 50 = .ok (.iload_n 2, 1) := by decide +kernel
theorem dX7_isTheirs_51 : decode cX7_isTheirs 51 = .ok (.laload, 1) := by decide +kernel
theorem dX7_isTheirs_52 : decode cX7_isTheirs 52 = .ok (.aload_n 0, 1) := by decide +kernel
theorem dX7_isTheirs_53 : decode cX7_isTheirs 53 = .ok (.getfield 18, 3) := by decide +kernel
theorem dX7_isTheirs_56 : decode cX7_isTheirs 56 = .ok (.iload_n 2, 1) := by decide +kernel
theorem dX7_isTheirs_57 : decode cX7_isTheirs 57 = .ok (.laload, 1) := by decide +kernel
theorem dX7_isTheirs_58 : decode cX7_isTheirs 58 = .ok (.lcmp, 1) := by decide +kernel
theorem dX7_isTheirs_59 : decode cX7_isTheirs 59 = .ok (.ifCond .eq 5, 3) := by decide +kernel
theorem dX7_isTheirs_62 : decode cX7_isTheirs 62 = .ok (.iconst 0, 1) := by decide +kernel
theorem dX7_isTheirs_63 : decode cX7_isTheirs 63 = .ok (.ireturn, 1) := by decide +kernel
theorem dX7_isTheirs_64 : decode cX7_isTheirs 64 = .ok (.iinc 2 1, 3) := by decide +kernel
theorem dX7_isTheirs_67 : decode cX7_isTheirs 67 = .ok (.goto (-29), 3) := by decide +kernel
theorem dX7_isTheirs_70 : decode cX7_isTheirs 70 = .ok (.iconst 1, 1) := by decide +kernel
theorem dX7_isTheirs_71 : decode cX7_isTheirs 71 = .ok (.ireturn, 1) := by decide +kernel
theorem dX8_init_0 : decode cX8_init 0 = .ok (.aload_n 0, 1) := by decide +kernel
theorem dX8_init_1 : decode cX8_init 1 = .ok (.invokespecial 3, 3) := by decide +kernel
theorem dX8_init_4 : decode cX8_init 4 = .ok (.aload_n 0, 1) := by decide +kernel
theorem dX8_init_5 : decode cX8_init 5 = .ok (.new 9, 3) := by decide +kernel
theorem dX8_init_8 : decode cX8_init 8 = .ok (.dup, 1) := by decide +kernel
theorem dX8_init_9 : decode cX8_init 9 = .ok (.invokespecial 11, 3) := by decide +kernel
theorem dX8_init_12 : decode cX8_init 12 = .ok (.putfield 12, 3) := by decide +kernel
theorem dX8_init_15 : decode cX8_init 15 = .ok (.aload_n 0, 1) := by decide +kernel
theorem dX8_init_16 : decode cX8_init 16 = .ok (.iconst 0, 1) := by decide +kernel
theorem dX8_init_17 : decode cX8_init 17 = .ok (.putfield 18, 3) := by decide +kernel
theorem dX8_init_20 : decode cX8_init 20 = .ok (.aload_n 0, 1) := by decide +kernel
theorem dX8_init_21 : decode cX8_init 21 = .ok (.new 22, 3) := by decide +kernel
theorem dX8_init_24 : decode cX8_init 24 = .ok (.dup, 1) := by decide +kernel
theorem dX8_init_25 : decode cX8_init 25 = .ok (.invokespecial 24, 3) := by decide +kernel
theorem dX8_init_28 : decode cX8_init 28 = .ok (.putfield 25, 3) := by decide +kernel
theorem dX8_init_31 : decode cX8_init 31 = .ok (.aload_n 0, 1) := by decide +kernel
theorem dX8_init_32 : decode cX8_init 32 = .ok (.iconst 0, 1) := by decide +kernel
theorem dX8_init_33 : decode cX8_init 33 = .ok (.putfield 29, 3) := by decide +kernel
theorem dX8_init_36 : decode cX8_init 36 = .ok (.aload_n 0, 1) := by decide +kernel
theorem dX8_init_37 : decode cX8_init 37 = .ok (.aload_n 1, 1) := by decide +kernel
theorem dX8_init_38 : decode cX8_init 38 = .ok (.putfield 32, 3) := by decide +kernel
theorem dX8_init_41 : decode cX8_init 41 = .ok (.aload_n 0, 1) := by decide +kernel
theorem dX8_init_42 : decode cX8_init 42 = .ok (.iload_n 2, 1) := by decide +kernel
theorem dX8_init_43 : decode cX8_init 43 = .ok (.putfield 36, 3) := by decide +kernel
theorem dX8_init_46 : decode cX8_init 46 = .ok (.aload_n 0, 1) := by decide +kernel
theorem dX8_init_47 : decode cX8_init 47 = .ok (.lload_n 3, 1) := by decide +kernel
theorem dX8_init_48 : decode cX8_init 48 = .ok (.putfield 39, 3) := by decide +kernel
theorem dX8_init_51 : decode cX8_init 51 = .ok (.aload_n 0, 1) := by decide +kernel
theorem dX8_init_52 : decode cX8_init 52 = .ok (.lload 5, 2) := by decide +kernel
theorem dX8_init_54 : decode cX8_init 54 = .ok (.putfield 43, 3) := by decide +kernel
theorem dX8_init_57 : decode cX8_init 57 = .ok (.aload_n 0, 1) := by decide +kernel
theorem dX8_init_58 : decode cX8_init 58 = .ok (.sipush 12345, 3) := by decide +kernel
theorem dX8_init_61 : decode cX8_init 61 = .ok (.iload_n 2, 1) := by decide +kernel
theorem dX8_init_62 : decode cX8_init 62 = .ok (.iadd, 1) := by decide +kernel
theorem dX8_init_63 : decode cX8_init 63 = .ok (.i2l, 1) := by decide +kernel
theorem dX8_init_64 : decode cX8_init 64 = .ok (.putfield 46, 3) := by decide +kernel
theorem dX8_init_67 : decode cX8_init 67 = .ok (.return_, 1) := by decide +kernel
theorem dX8_start_0 : decode cX8_start 0 = .ok (.aload_n 0, 1) := by decide +kernel
theorem dX8_start_1 : decode cX8_start 1 = .ok (.aload_n 0, 1) := by decide +kernel
theorem dX8_start_2 : decode cX8_start 2 = .ok (.getfield 46, 3) := by decide +kernel
theorem dX8_start_5 : decode cX8_start 5 = .ok (.ldc2_w 49, 3) := by decide +kernel
theorem dX8_start_8 : decode cX8_start 8 = .ok (.lmul, 1) := by decide +kernel
theorem dX8_start_9 : decode cX8_start 9 = .ok (.ldc2_w 51, 3) := by decide +kernel
theorem dX8_start_12 : decode cX8_start 12 = .ok (.ladd, 1) := by decide +kernel
theorem dX8_start_13 : decode cX8_start 13 = .ok (.ldc2_w 53, 3) := by decide +kernel
theorem dX8_start_16 : decode cX8_start 16 = .ok (.lrem, 1) := by decide +kernel
theorem dX8_start_17 : decode cX8_start 17 = .ok (.putfield 46, 3) := by decide +kernel
theorem dX8_start_20 : decode cX8_start 20 = .ok (.aload_n 0, 1) := by decide +kernel
theorem dX8_start_21 : decode cX8_start 21 = .ok (.iload_n 1, 1) := by decide +kernel
theorem dX8_start_22 : decode cX8_start 22 = .ok (.putfield 55, 3) := by decide +kernel
theorem dX8_start_25 : decode cX8_start 25 = .ok (.aload_n 0, 1) := by decide +kernel
theorem dX8_start_26 : decode cX8_start 26 = .ok (.iload 4, 2) := by decide +kernel
theorem dX8_start_28 : decode cX8_start 28 = .ok (.putfield 58, 3) := by decide +kernel
theorem dX8_start_31 : decode cX8_start 31 = .ok (.aload_n 0, 1) := by decide +kernel
theorem dX8_start_32 : decode cX8_start 32 = .ok (.iconst 0, 1) := by decide +kernel
theorem dX8_start_33 : decode cX8_start 33 = .ok (.putfield 18, 3) := by decide +kernel
theorem dX8_start_36 : decode cX8_start 36 = .ok (.aload_n 0, 1) := by decide +kernel
theorem dX8_start_37 : decode cX8_start 37 = .ok (.new 22, 3) := by decide +kernel
theorem dX8_start_40 : decode cX8_start 40 = .ok (.dup, 1) := by decide +kernel
theorem dX8_start_41 : decode cX8_start 41 = .ok (.invokespecial 24, 3) := by decide +kernel
theorem dX8_start_44 : decode cX8_start 44 = .ok (.putfield 25, 3) := by decide +kernel
theorem dX8_start_47 : decode cX8_start 47 = .ok (.aload_n 0, 1) := by decide +kernel
theorem dX8_start_48 : decode cX8_start 48 = .ok (.getfield 25, 3) := by decide +kernel
theorem dX8_start_51 : decode cX8_start 51 = .ok (.aload_n 0, 1) := by decide +kernel
theorem dX8_start_52 : decode cX8_start 52 = .ok (.getfield 36, 3) := by decide +kernel
theorem dX8_start_55 : decode cX8_start 55 = .ok (.putfield 61, 3) := by decide +kernel
theorem dX8_start_58 : decode cX8_start 58 = .ok (.aload_n 0, 1) := by decide +kernel
theorem dX8_start_59 : decode cX8_start 59 = .ok (.getfield 25, 3) := by decide +kernel
theorem dX8_start_62 : decode cX8_start 62 = .ok (.lload_n 2, 1) := by decide +kernel
theorem dX8_start_63 : decode cX8_start 63 = .ok (.putfield 64, 3) := by decide +kernel
theorem dX8_start_66 : decode cX8_start 66 = .ok (.aload_n 0, 1) := by decide +kernel
theorem dX8_start_67 : decode cX8_start 67 = .ok (.getfield 25, 3) := by decide +kernel
theorem dX8_start_70 : decode cX8_start 70 = .ok (.aload_n 0, 1) := by decide +kernel
theorem dX8_start_71 : decode cX8_start 71 = .ok (.getfield 46, 3) := by decide +kernel
theorem dX8_start_74 : decode cX8_start 74 = .ok (.putfield 67, 3) := by decide +kernel
theorem dX8_start_77 : decode cX8_start 77 = .ok (.aload_n 0, 1) := by decide +kernel
theorem dX8_start_78 : decode cX8_start 78 = .ok (.getfield 32, 3) := by decide +kernel
theorem dX8_start_81 : decode cX8_start 81 = .ok (.getfield 70, 3) := by decide +kernel
theorem dX8_start_84 : decode cX8_start 84 = .ok (.aload_n 0, 1) := by decide +kernel
theorem dX8_start_85 : decode cX8_start 85 = .ok (.getfield 25, 3) := by decide +kernel
theorem dX8_start_88 : decode cX8_start 88 = .ok (.invokevirtual 75, 3) := by decide +kernel
theorem dX8_start_91 : decode cX8_start 91 = .ok (.pop, 1) := by decide +kernel
theorem dX8_start_92 : decode cX8_start 92 = .ok (.aload_n 0, 1) := by decide +kernel
theorem dX8_start_93 : decode cX8_start 93 = .ok (.getfield 32, 3) := by decide +kernel
theorem dX8_start_96 : decode cX8_start 96 = .ok (.getfield 79, 3) := by decide +kernel
theorem dX8_start_99 : decode cX8_start 99 = .ok (.getfield 83, 3) := by decide +kernel
theorem dX8_start_102 : decode cX8_start 102 = .ok (.iconst 4, 1) := by decide +kernel
theorem dX8_start_103 : decode cX8_start 103 = .ok (.aload_n 0, 1) := by decide +kernel
theorem dX8_start_104 : decode cX8_start 104 = .ok (.getfield 46, 3) := by decide +kernel
theorem dX8_start_107 : decode cX8_start 107 = .ok (.lastore, 1) := by decide +kernel
theorem dX8_start_108 : decode cX8_start 108 = .ok (.aload_n 0, 1) := by decide +kernel
theorem dX8_start_109 : decode cX8_start 109 = .ok (.iconst 1, 1) := by decide +kernel
theorem dX8_start_110 : decode cX8_start 110 = .ok (.iconst 2, 1) := by decide +kernel
theorem dX8_start_111 : decode cX8_start 111 = .ok (.invokevirtual 89, 3) := by decide +kernel
theorem dX8_start_114 : decode cX8_start 114 = .ok (.aload_n 0, 1) := by decide +kernel
theorem dX8_start_115 : decode cX8_start 115 = .ok (.getfield 46, 3) := by decide +kernel
theorem dX8_start_118 : decode cX8_start 118 = .ok (.l2i, 1) := by decide +kernel
theorem dX8_start_119 : decode cX8_start 119 = .ok (.ireturn, 1) := by decide +kernel
end
section
theorem dX8_takes_0 : decode cX8_takes 0 = .ok (.aload_n 1, 1) := by decide +kernel
theorem dX8_takes_1 : decode cX8_takes 1 = .ok (.getfield 93, 3) := by decide +kernel
theorem dX8_takes_4 : decode cX8_takes 4 = .ok (.aload_n 0, 1) := by decide +kernel
theorem dX8_takes_5 : decode cX8_takes 5 = .ok (.getfield 29, 3) := by decide +kernel
theorem dX8_takes_8 : decode cX8_takes 8 = .ok (.if_icmp .eq 5, 3) := by decide +kernel
theorem dX8_takes_11 : decode cX8_takes 11 = .ok (.iconst 0, 1) := by decide +kernel
theorem dX8_takes_12 : decode cX8_takes 12 = .ok (.ireturn, 1) := by decide +kernel
theorem dX8_takes_13 : decode cX8_takes 13 = .ok (.aload_n 1, 1) := by decide +kernel
theorem dX8_takes_14 : decode cX8_takes 14 = .ok (.getfield 93, 3) := by decide +kernel
theorem dX8_takes_17 : decode cX8_takes 17 = .ok (.tableswitch 85 2 10 #[51, 85, 58, 85, 65, 85, 72, 85, 78], 51) := by decide +kernel
theorem dX8_takes_68 : decode cX8_takes 68 = .ok (.aload_n 0, 1) := by decide +kernel
theorem dX8_takes_69 : decode cX8_takes 69 = .ok (.aload_n 1, 1) := by decide +kernel
theorem dX8_takes_70 : decode cX8_takes 70 = .ok (.invokevirtual 96, 3) := by decide +kernel
theorem dX8_takes_73 : decode cX8_takes 73 = .ok (.iconst 1, 1) := by decide +kernel
theorem dX8_takes_74 : decode cX8_takes 74 = .ok (.ireturn, 1) := by decide +kernel
theorem dX8_takes_75 : decode cX8_takes 75 = .ok (.aload_n 0, 1) := by decide +kernel
theorem dX8_takes_76 : decode cX8_takes 76 = .ok (.aload_n 1, 1) := by decide +kernel
theorem dX8_takes_77 : decode cX8_takes 77 = .ok (.invokevirtual 100, 3) := by decide +kernel
theorem dX8_takes_80 : decode cX8_takes 80 = .ok (.iconst 1, 1) := by decide +kernel
theorem dX8_takes_81 : decode cX8_takes 81 = .ok (.ireturn, 1) := by decide +kernel
theorem dX8_takes_82 : decode cX8_takes 82 = .ok (.aload_n 0, 1) := by decide +kernel
theorem dX8_takes_83 : decode cX8_takes 83 = .ok (.aload_n 1, 1) := by decide +kernel
theorem dX8_takes_84 : decode cX8_takes 84 = .ok (.invokevirtual 103, 3) := by decide +kernel
theorem dX8_takes_87 : decode cX8_takes 87 = .ok (.iconst 1, 1) := by decide +kernel
theorem dX8_takes_88 : decode cX8_takes 88 = .ok (.ireturn, 1) := by decide +kernel
theorem dX8_takes_89 : decode cX8_takes 89 = .ok (.aload_n 0, 1) := by decide +kernel
theorem dX8_takes_90 : decode cX8_takes 90 = .ok (.aload_n 1, 1) := by decide +kernel
theorem dX8_takes_91 : decode cX8_takes 91 = .ok (.invokevirtual 106, 3) := by decide +kernel
theorem dX8_takes_94 : decode cX8_takes 94 = .ok (.ireturn, 1) := by decide +kernel
theorem dX8_takes_95 : decode cX8_takes 95 = .ok (.aload_n 0, 1) := by decide +kernel
theorem dX8_takes_96 : decode cX8_takes 96 = .ok (.aload_n 1, 1) := by decide +kernel
theorem dX8_takes_97 : decode cX8_takes 97 = .ok (.invokevirtual 110, 3) := by decide +kernel
theorem dX8_takes_100 : decode cX8_takes 100 = .ok (.iconst 1, 1) := by decide +kernel
theorem dX8_takes_101 : decode cX8_takes 101 = .ok (.ireturn, 1) := by decide +kernel
theorem dX8_takes_102 : decode cX8_takes 102 = .ok (.iconst 0, 1) := by decide +kernel
theorem dX8_takes_103 : decode cX8_takes 103 = .ok (.ireturn, 1) := by decide +kernel
theorem dX8_takeCard_0 : decode cX8_takeCard 0 = .ok (.aload_n 1, 1) := by decide +kernel
theorem dX8_takeCard_1 : decode cX8_takeCard 1 = .ok (.iconst 1, 1) := by decide +kernel
theorem dX8_takeCard_2 : decode cX8_takeCard 2 = .ok (.invokevirtual 113, 3) := by decide +kernel
theorem dX8_takeCard_5 : decode cX8_takeCard 5 = .ok (.istore_n 2, 1) := by decide +kernel
theorem dX8_takeCard_6 : decode cX8_takeCard 6 = .ok (.aload_n 1, 1) := by decide +kernel
theorem dX8_takeCard_7 : decode cX8_takeCard 7 = .ok (.iconst 2, 1) := by decide +kernel
theorem dX8_takeCard_8 : decode cX8_takeCard 8 = .ok (.invokevirtual 113, 3) := by decide +kernel
theorem dX8_takeCard_11 : decode cX8_takeCard 11 = .ok (.istore_n 3, 1) := by decide +kernel
theorem dX8_takeCard_12 : decode cX8_takeCard 12 = .ok (.aload_n 0, 1) := by decide +kernel
theorem dX8_takeCard_13 : decode cX8_takeCard 13 = .ok (.getfield 32, 3) := by decide +kernel
theorem dX8_takeCard_16 : decode cX8_takeCard 16 = .ok (.iload_n 2, 1) := by decide +kernel
theorem dX8_takeCard_17 : decode cX8_takeCard 17 = .ok (.invokevirtual 117, 3) := by decide +kernel
theorem dX8_takeCard_20 : decode cX8_takeCard 20 = .ok (.ifCond .eq 35, 3) := by decide +kernel
theorem dX8_takeCard_23 : decode cX8_takeCard 23 = .ok (.aload_n 0, 1) := by decide +kernel
theorem dX8_takeCard_24 : decode cX8_takeCard 24 = .ok (.getfield 32, 3) := by decide +kernel
theorem dX8_takeCard_27 : decode cX8_takeCard 27 = .ok (.getfield 121, 3) := by decide +kernel
theorem dX8_takeCard_30 : decode cX8_takeCard 30 = .ok (.iload_n 2, 1) := by decide +kernel
theorem dX8_takeCard_31 : decode cX8_takeCard 31 = .ok (.iload_n 3, 1) := by decide +kernel
theorem dX8_takeCard_32 : decode cX8_takeCard 32 = .ok (.aload_n 0, 1) := by decide +kernel
theorem dX8_takeCard_33 : decode cX8_takeCard 33 = .ok (.getfield 25, 3) := by decide +kernel
theorem dX8_takeCard_36 : decode cX8_takeCard 36 = .ok (.getfield 67, 3) := by decide +kernel
theorem dX8_takeCard_39 : decode cX8_takeCard 39 = .ok (.invokevirtual 125, 3) := by decide +kernel
theorem dX8_takeCard_42 : decode cX8_takeCard 42 = .ok (.aload_n 1, 1) := by decide +kernel
theorem dX8_takeCard_43 : decode cX8_takeCard 43 = .ok (.getfield 83, 3) := by decide +kernel
theorem dX8_takeCard_46 : decode cX8_takeCard 46 = .ok (.bipush 8, 2) := by decide +kernel
theorem dX8_takeCard_48 : decode cX8_takeCard 48 = .ok (.laload, 1) := by decide +kernel
theorem dX8_takeCard_49 : decode cX8_takeCard 49 = .ok (.invokevirtual 131, 3) := by decide +kernel
theorem dX8_takeCard_52 : decode cX8_takeCard 52 = .ok (.ifCond .ne 9, 3) := by decide +kernel
theorem dX8_takeCard_55 : decode cX8_takeCard 55 = .ok (.aload_n 0, 1) := by decide +kernel
theorem dX8_takeCard_56 : decode cX8_takeCard 56 = .ok (.iconst 3, 1) := by decide +kernel
theorem dX8_takeCard_57 : decode cX8_takeCard 57 = .ok (.invokevirtual 135, 3) := by decide +kernel
theorem dX8_takeCard_60 : decode cX8_takeCard 60 = .ok (.return_, 1) := by decide +kernel
theorem dX8_takeCard_61 : decode cX8_takeCard 61 = .ok (.aload_n 0, 1) := by decide +kernel
theorem dX8_takeCard_62 : decode cX8_takeCard 62 = .ok (.getfield 25, 3) := by decide +kernel
theorem dX8_takeCard_65 : decode cX8_takeCard 65 = .ok (.iload_n 2, 1) := by decide +kernel
theorem dX8_takeCard_66 : decode cX8_takeCard 66 = .ok (.putfield 139, 3) := by decide +kernel
theorem dX8_takeCard_69 : decode cX8_takeCard 69 = .ok (.aload_n 0, 1) := by decide +kernel
theorem dX8_takeCard_70 : decode cX8_takeCard 70 = .ok (.iload_n 3, 1) := by decide +kernel
theorem dX8_takeCard_71 : decode cX8_takeCard 71 = .ok (.putfield 142, 3) := by decide +kernel
theorem dX8_takeCard_74 : decode cX8_takeCard 74 = .ok (.aload_n 0, 1) := by decide +kernel
theorem dX8_takeCard_75 : decode cX8_takeCard 75 = .ok (.getfield 25, 3) := by decide +kernel
theorem dX8_takeCard_78 : decode cX8_takeCard 78 = .ok (.getfield 64, 3) := by decide +kernel
theorem dX8_takeCard_81 : decode cX8_takeCard 81 = .ok (.aload_n 0, 1) := by decide +kernel
theorem dX8_takeCard_82 : decode cX8_takeCard 82 = .ok (.getfield 43, 3) := by decide +kernel
theorem dX8_takeCard_85 : decode cX8_takeCard 85 = .ok (.lcmp, 1) := by decide +kernel
theorem dX8_takeCard_86 : decode cX8_takeCard 86 = .ok (.ifCond .lt 30, 3) := by decide +kernel
theorem dX8_takeCard_89 : decode cX8_takeCard 89 = .ok (.aload_n 0, 1) := by decide +kernel
theorem dX8_takeCard_90 : decode cX8_takeCard 90 = .ok (.getfield 32, 3) := by decide +kernel
theorem dX8_takeCard_93 : decode cX8_takeCard 93 = .ok (.getfield 79, 3) := by decide +kernel
theorem dX8_takeCard_96 : decode cX8_takeCard 96 = .ok (.getfield 83, 3) := by decide +kernel
theorem dX8_takeCard_99 : decode cX8_takeCard 99 = .ok (.bipush 9, 2) := by decide +kernel
theorem dX8_takeCard_101 : decode cX8_takeCard 101 = .ok (.aload_n 0, 1) := by decide +kernel
theorem dX8_takeCard_102 : decode cX8_takeCard 102 = .ok (.getfield 58, 3) := by decide +kernel
theorem dX8_takeCard_105 : decode cX8_takeCard 105 = .ok (.i2l, 1) := by decide +kernel
theorem dX8_takeCard_106 : decode cX8_takeCard 106 = .ok (.lastore, 1) := by decide +kernel
theorem dX8_takeCard_107 : decode cX8_takeCard 107 = .ok (.aload_n 0, 1) := by decide +kernel
theorem dX8_takeCard_108 : decode cX8_takeCard 108 = .ok (.iconst 3, 1) := by decide +kernel
theorem dX8_takeCard_109 : decode cX8_takeCard 109 = .ok (.iconst 4, 1) := by decide +kernel
theorem dX8_takeCard_110 : decode cX8_takeCard 110 = .ok (.invokevirtual 89, 3) := by decide +kernel
theorem dX8_takeCard_113 : decode cX8_takeCard 113 = .ok (.goto 8, 3) := by decide +kernel
theorem dX8_takeCard_116 : decode cX8_takeCard 116 = .ok (.aload_n 0, 1) := by decide +kernel
theorem dX8_takeCard_117 : decode cX8_takeCard 117 = .ok (.iconst 0, 1) := by decide +kernel
theorem dX8_takeCard_118 : decode cX8_takeCard 118 = .ok (.invokevirtual 145, 3) := by decide +kernel
theorem dX8_takeCard_121 : decode cX8_takeCard 121 = .ok (.return_, 1) := by decide +kernel
theorem dX8_takePinned_0 : decode cX8_takePinned 0 = .ok (.aload_n 1, 1) := by decide +kernel
theorem dX8_takePinned_1 : decode cX8_takePinned 1 = .ok (.getfield 83, 3) := by decide +kernel
theorem dX8_takePinned_4 : decode cX8_takePinned 4 = .ok (.bipush 6, 2) := by decide +kernel
theorem dX8_takePinned_6 : decode cX8_takePinned 6 = .ok (.laload, 1) := by decide +kernel
theorem dX8_takePinned_7 : decode cX8_takePinned 7 = .ok (.lconst 1, 1) := by decide +kernel
theorem dX8_takePinned_8 : decode cX8_takePinned 8 = .ok (.lcmp, 1) := by decide +kernel
theorem dX8_takePinned_9 : decode cX8_takePinned 9 = .ok (.ifCond .ne 11, 3) := by decide +kernel
theorem dX8_takePinned_12 : decode cX8_takePinned 12 = .ok (.aload_n 0, 1) := by decide +kernel
theorem dX8_takePinned_13 : decode cX8_takePinned 13 = .ok (.iconst 1, 1) := by decide +kernel
theorem dX8_takePinned_14 : decode cX8_takePinned 14 = .ok (.invokevirtual 145, 3) := by decide +kernel
theorem dX8_takePinned_17 : decode cX8_takePinned 17 = .ok (.goto 8, 3) := by decide +kernel
theorem dX8_takePinned_20 : decode cX8_takePinned 20 = .ok (.aload_n 0, 1) := by decide +kernel
theorem dX8_takePinned_21 : decode cX8_takePinned 21 = .ok (.iconst 3, 1) := by decide +kernel
theorem dX8_takePinned_22 : decode cX8_takePinned 22 = .ok (.invokevirtual 135, 3) := by decide +kernel
theorem dX8_takePinned_25 : decode cX8_takePinned 25 = .ok (.return_, 1) := by decide +kernel
theorem dX8_ask_0 : decode cX8_ask 0 = .ok (.aload_n 0, 1) := by decide +kernel
theorem dX8_ask_1 : decode cX8_ask 1 = .ok (.getfield 25, 3) := by decide +kernel
theorem dX8_ask_4 : decode cX8_ask 4 = .ok (.iload_n 1, 1) := by decide +kernel
theorem dX8_ask_5 : decode cX8_ask 5 = .ok (.putfield 148, 3) := by decide +kernel
theorem dX8_ask_8 : decode cX8_ask 8 = .ok (.aload_n 0, 1) := by decide +kernel
theorem dX8_ask_9 : decode cX8_ask 9 = .ok (.getfield 32, 3) := by decide +kernel
theorem dX8_ask_12 : decode cX8_ask 12 = .ok (.getfield 79, 3) := by decide +kernel
theorem dX8_ask_15 : decode cX8_ask 15 = .ok (.getfield 83, 3) := by decide +kernel
theorem dX8_ask_18 : decode cX8_ask 18 = .ok (.iconst 3, 1) := by decide +kernel
theorem dX8_ask_19 : decode cX8_ask 19 = .ok (.aload_n 0, 1) := by decide +kernel
theorem dX8_ask_20 : decode cX8_ask 20 = .ok (.getfield 25, 3) := by decide +kernel
theorem dX8_ask_23 : decode cX8_ask 23 = .ok (.getfield 64, 3) := by decide +kernel
theorem dX8_ask_26 : decode cX8_ask 26 = .ok (.lastore, 1) := by decide +kernel
theorem dX8_ask_27 : decode cX8_ask 27 = .ok (.aload_n 0, 1) := by decide +kernel
theorem dX8_ask_28 : decode cX8_ask 28 = .ok (.getfield 32, 3) := by decide +kernel
theorem dX8_ask_31 : decode cX8_ask 31 = .ok (.getfield 79, 3) := by decide +kernel
theorem dX8_ask_34 : decode cX8_ask 34 = .ok (.getfield 83, 3) := by decide +kernel
theorem dX8_ask_37 : decode cX8_ask 37 = .ok (.iconst 4, 1) := by decide +kernel
theorem dX8_ask_38 : decode cX8_ask 38 = .ok (.aload_n 0, 1) := by decide +kernel
theorem dX8_ask_39 : decode cX8_ask 39 = .ok (.getfield 25, 3) := by decide +kernel
theorem dX8_ask_42 : decode cX8_ask 42 = .ok (.getfield 67, 3) := by decide +kernel
theorem dX8_ask_45 : decode cX8_ask 45 = .ok (.lastore, 1) := by decide +kernel
theorem dX8_ask_46 : decode cX8_ask 46 = .ok (.aload_n 0, 1) := by decide +kernel
theorem dX8_ask_47 : decode cX8_ask 47 = .ok (.getfield 32, 3) := by decide +kernel
theorem dX8_ask_50 : decode cX8_ask 50 = .ok (.getfield 79, 3) := by decide +kernel
theorem dX8_ask_53 : decode cX8_ask 53 = .ok (.getfield 83, 3) := by decide +kernel
theorem dX8_ask_56 : decode cX8_ask 56 = .ok (.iconst 5, 1) := by decide +kernel
theorem dX8_ask_57 : decode cX8_ask 57 = .ok (.aload_n 0, 1) := by decide +kernel
theorem dX8_ask_58 : decode cX8_ask 58 = .ok (.getfield 36, 3) := by decide +kernel
theorem dX8_ask_61 : decode cX8_ask 61 = .ok (.i2l, 1) := by decide +kernel
theorem dX8_ask_62 : decode cX8_ask 62 = .ok (.lastore, 1) := by decide +kernel
theorem dX8_ask_63 : decode cX8_ask 63 = .ok (.aload_n 0, 1) := by decide +kernel
theorem dX8_ask_64 : decode cX8_ask 64 = .ok (.getfield 32, 3) := by decide +kernel
theorem dX8_ask_67 : decode cX8_ask 67 = .ok (.getfield 79, 3) := by decide +kernel
theorem dX8_ask_70 : decode cX8_ask 70 = .ok (.getfield 83, 3) := by decide +kernel
theorem dX8_ask_73 : decode cX8_ask 73 = .ok (.bipush 7, 2) := by decide +kernel
theorem dX8_ask_75 : decode cX8_ask 75 = .ok (.aload_n 0, 1) := by decide +kernel
theorem dX8_ask_76 : decode cX8_ask 76 = .ok (.getfield 25, 3) := by decide +kernel
theorem dX8_ask_79 : decode cX8_ask 79 = .ok (.getfield 64, 3) := by decide +kernel
theorem dX8_ask_82 : decode cX8_ask 82 = .ok (.aload_n 0, 1) := by decide +kernel
theorem dX8_ask_83 : decode cX8_ask 83 = .ok (.getfield 39, 3) := by decide +kernel
theorem dX8_ask_86 : decode cX8_ask 86 = .ok (.lcmp, 1) := by decide +kernel
theorem dX8_ask_87 : decode cX8_ask 87 = .ok (.ifCond .gt 9, 3) := by decide +kernel
theorem dX8_ask_90 : decode cX8_ask 90 = .ok (.ldc2_w 151, 3) := by decide +kernel
theorem dX8_ask_93 : decode cX8_ask 93 = .ok (.goto 4, 3) := by decide +kernel
theorem dX8_ask_96 : decode cX8_ask 96 = .ok (.lconst 1, 1) := by decide +kernel
theorem dX8_ask_97 : decode cX8_ask 97 = .ok (.lastore, 1) := by decide +kernel
theorem dX8_ask_98 : decode cX8_ask 98 = .ok (.aload_n 0, 1) := by decide +kernel
theorem dX8_ask_99 : decode cX8_ask 99 = .ok (.iconst 5, 1) := by decide +kernel
theorem dX8_ask_100 : decode cX8_ask 100 = .ok (.bipush 6, 2) := by decide +kernel
theorem dX8_ask_102 : decode cX8_ask 102 = .ok (.invokevirtual 89, 3) := by decide +kernel
theorem dX8_ask_105 : decode cX8_ask 105 = .ok (.return_, 1) := by decide +kernel
theorem dX8_takeAnswer_0 : decode cX8_takeAnswer 0 = .ok (.aload_n 0, 1) := by decide +kernel
theorem dX8_takeAnswer_1 : decode cX8_takeAnswer 1 = .ok (.getfield 25, 3) := by decide +kernel
theorem dX8_takeAnswer_4 : decode cX8_takeAnswer 4 = .ok (.aload_n 1, 1) := by decide +kernel
theorem dX8_takeAnswer_5 : decode cX8_takeAnswer 5 = .ok (.iconst 2, 1) := by decide +kernel
theorem dX8_takeAnswer_6 : decode cX8_takeAnswer 6 = .ok (.invokevirtual 113, 3) := by decide +kernel
theorem dX8_takeAnswer_9 : decode cX8_takeAnswer 9 = .ok (.putfield 153, 3) := by decide +kernel
theorem dX8_takeAnswer_12 : decode cX8_takeAnswer 12 = .ok (.aload_n 0, 1) := by decide +kernel
theorem dX8_takeAnswer_13 : decode cX8_takeAnswer 13 = .ok (.getfield 25, 3) := by decide +kernel
theorem dX8_takeAnswer_16 : decode cX8_takeAnswer 16 = .ok (.aload_n 1, 1) := by decide +kernel
theorem dX8_takeAnswer_17 : decode cX8_takeAnswer 17 = .ok (.bipush 7, 2) := by decide +kernel
theorem dX8_takeAnswer_19 : decode cX8_takeAnswer 19 = .ok (.invokevirtual 113, 3) := by decide +kernel
theorem dX8_takeAnswer_22 : decode cX8_takeAnswer 22 = .ok (.putfield 156, 3) := by decide +kernel
theorem dX8_takeAnswer_25 : decode cX8_takeAnswer 25 = .ok (.aload_n 0, 1) := by decide +kernel
theorem dX8_takeAnswer_26 : decode cX8_takeAnswer 26 = .ok (.getfield 25, 3) := by decide +kernel
theorem dX8_takeAnswer_29 : decode cX8_takeAnswer 29 = .ok (.aload_n 1, 1) := by decide +kernel
theorem dX8_takeAnswer_30 : decode cX8_takeAnswer 30 = .ok (.getfield 83, 3) := by decide +kernel
theorem dX8_takeAnswer_33 : decode cX8_takeAnswer 33 = .ok (.bipush 8, 2) := by decide +kernel
theorem dX8_takeAnswer_35 : decode cX8_takeAnswer 35 = .ok (.laload, 1) := by decide +kernel
theorem dX8_takeAnswer_36 : decode cX8_takeAnswer 36 = .ok (.putfield 159, 3) := by decide +kernel
theorem dX8_takeAnswer_39 : decode cX8_takeAnswer 39 = .ok (.aload_n 0, 1) := by decide +kernel
theorem dX8_takeAnswer_40 : decode cX8_takeAnswer 40 = .ok (.getfield 25, 3) := by decide +kernel
theorem dX8_takeAnswer_43 : decode cX8_takeAnswer 43 = .ok (.getfield 156, 3) := by decide +kernel
theorem dX8_takeAnswer_46 : decode cX8_takeAnswer 46 = .ok (.iconst 1, 1) := by decide +kernel
theorem dX8_takeAnswer_47 : decode cX8_takeAnswer 47 = .ok (.if_icmp .ne 23, 3) := by decide +kernel
theorem dX8_takeAnswer_50 : decode cX8_takeAnswer 50 = .ok (.aload_n 0, 1) := by decide +kernel
theorem dX8_takeAnswer_51 : decode cX8_takeAnswer 51 = .ok (.bipush 7, 2) := by decide +kernel
theorem dX8_takeAnswer_53 : decode cX8_takeAnswer 53 = .ok (.aload_n 0, 1) := by decide +kernel
theorem dX8_takeAnswer_54 : decode cX8_takeAnswer 54 = .ok (.getfield 25, 3) := by decide +kernel
theorem dX8_takeAnswer_57 : decode cX8_takeAnswer 57 = .ok (.invokevirtual 162, 3) := by decide +kernel
theorem dX8_takeAnswer_60 : decode cX8_takeAnswer 60 = .ok (.pop, 1) := by decide +kernel
theorem dX8_takeAnswer_61 : decode cX8_takeAnswer 61 = .ok (.aload_n 0, 1) := by decide +kernel
theorem dX8_takeAnswer_62 : decode cX8_takeAnswer 62 = .ok (.bipush 8, 2) := by decide +kernel
theorem dX8_takeAnswer_64 : decode cX8_takeAnswer 64 = .ok (.invokevirtual 166, 3) := by decide +kernel
theorem dX8_takeAnswer_67 : decode cX8_takeAnswer 67 = .ok (.goto 47, 3) := by decide +kernel
theorem dX8_takeAnswer_70 : decode cX8_takeAnswer 70 = .ok (.aload_n 0, 1) := by decide +kernel
theorem dX8_takeAnswer_71 : decode cX8_takeAnswer 71 = .ok (.getfield 25, 3) := by decide +kernel
theorem dX8_takeAnswer_74 : decode cX8_takeAnswer 74 = .ok (.getfield 156, 3) := by decide +kernel
theorem dX8_takeAnswer_77 : decode cX8_takeAnswer 77 = .ok (.iconst 2, 1) := by decide +kernel
theorem dX8_takeAnswer_78 : decode cX8_takeAnswer 78 = .ok (.if_icmp .ne 31, 3) := by decide +kernel
theorem dX8_takeAnswer_81 : decode cX8_takeAnswer 81 = .ok (.aload_n 0, 1) := by decide +kernel
theorem dX8_takeAnswer_82 : decode cX8_takeAnswer 82 = .ok (.aload_n 1, 1) := by decide +kernel
theorem dX8_takeAnswer_83 : decode cX8_takeAnswer 83 = .ok (.invokevirtual 169, 3) := by decide +kernel
theorem dX8_takeAnswer_86 : decode cX8_takeAnswer 86 = .ok (.ifCond .eq 23, 3) := by decide +kernel
theorem dX8_takeAnswer_89 : decode cX8_takeAnswer 89 = .ok (.aload_n 0, 1) := by decide +kernel
theorem dX8_takeAnswer_90 : decode cX8_takeAnswer 90 = .ok (.getfield 12, 3) := by decide +kernel
theorem dX8_takeAnswer_93 : decode cX8_takeAnswer 93 = .ok (.aload_n 0, 1) := by decide +kernel
theorem dX8_takeAnswer_94 : decode cX8_takeAnswer 94 = .ok (.getfield 25, 3) := by decide +kernel
theorem dX8_takeAnswer_97 : decode cX8_takeAnswer 97 = .ok (.invokevirtual 75, 3) := by decide +kernel
theorem dX8_takeAnswer_100 : decode cX8_takeAnswer 100 = .ok (.pop, 1) := by decide +kernel
theorem dX8_takeAnswer_101 : decode cX8_takeAnswer 101 = .ok (.aload_n 0, 1) := by decide +kernel
theorem dX8_takeAnswer_102 : decode cX8_takeAnswer 102 = .ok (.iconst 2, 1) := by decide +kernel
theorem dX8_takeAnswer_103 : decode cX8_takeAnswer 103 = .ok (.invokevirtual 135, 3) := by decide +kernel
theorem dX8_takeAnswer_106 : decode cX8_takeAnswer 106 = .ok (.goto 8, 3) := by decide +kernel
theorem dX8_takeAnswer_109 : decode cX8_takeAnswer 109 = .ok (.aload_n 0, 1) := by decide +kernel
theorem dX8_takeAnswer_110 : decode cX8_takeAnswer 110 = .ok (.iconst 3, 1) := by decide +kernel
theorem dX8_takeAnswer_111 : decode cX8_takeAnswer 111 = .ok (.invokevirtual 135, 3) := by decide +kernel
theorem dX8_takeAnswer_114 : decode cX8_takeAnswer 114 = .ok (.return_, 1) := by decide +kernel
theorem dX8_isGoodWithoutHost_0 : decode cX8_isGoodWithoutHost 0 = .ok (.aload_n 0, 1) := by decide +kernel
theorem dX8_isGoodWithoutHost_1 : decode cX8_isGoodWithoutHost 1 = .ok (.getfield 25, 3) := by decide +kernel
theorem dX8_isGoodWithoutHost_4 : decode cX8_isGoodWithoutHost 4 = .ok (.getfield 153, 3) := by decide +kernel
theorem dX8_isGoodWithoutHost_7 : decode cX8_isGoodWithoutHost 7 = .ok (.aload_n 0, 1) := by decide +kernel
theorem dX8_isGoodWithoutHost_8 : decode cX8_isGoodWithoutHost 8 = .ok (.getfield 142, 3) := by decide +kernel
theorem dX8_isGoodWithoutHost_11 : decode cX8_isGoodWithoutHost 11 = .ok (.if_icmp .ne 53, 3) := by decide +kernel
theorem dX8_isGoodWithoutHost_14 : decode cX8_isGoodWithoutHost 14 = .ok (.aload_n 1, 1) := by decide +kernel
theorem dX8_isGoodWithoutHost_15 : decode cX8_isGoodWithoutHost 15 = .ok (.getfield 83, 3) := by decide +kernel
theorem dX8_isGoodWithoutHost_18 : decode cX8_isGoodWithoutHost 18 = .ok (.bipush 6, 2) := by decide +kernel
theorem dX8_isGoodWithoutHost_20 : decode cX8_isGoodWithoutHost 20 = .ok (.laload, 1) := by decide +kernel
theorem dX8_isGoodWithoutHost_21 : decode cX8_isGoodWithoutHost 21 = .ok (.aload_n 0, 1) := by decide +kernel
theorem dX8_isGoodWithoutHost_22 : decode cX8_isGoodWithoutHost 22 = .ok (.getfield 25, 3) := by decide +kernel
theorem dX8_isGoodWithoutHost_25 : decode cX8_isGoodWithoutHost 25 = .ok (.getfield 148, 3) := by decide +kernel
theorem dX8_isGoodWithoutHost_28 : decode cX8_isGoodWithoutHost 28 = .ok (.i2l, 1) := by decide +kernel
theorem dX8_isGoodWithoutHost_29 : decode cX8_isGoodWithoutHost 29 = .ok (.lcmp, 1) := by decide +kernel
theorem dX8_isGoodWithoutHost_30 : decode cX8_isGoodWithoutHost 30 = .ok (.ifCond .ne 34, 3) := by decide +kernel
theorem dX8_isGoodWithoutHost_33 : decode cX8_isGoodWithoutHost 33 = .ok (.aload_n 0, 1) := by decide +kernel
theorem dX8_isGoodWithoutHost_34 : decode cX8_isGoodWithoutHost 34 = .ok (.getfield 32, 3) := by decide +kernel
theorem dX8_isGoodWithoutHost_37 : decode cX8_isGoodWithoutHost 37 = .ok (.getfield 121, 3) := by decide +kernel
theorem dX8_isGoodWithoutHost_40 : decode cX8_isGoodWithoutHost 40 = .ok (.aload_n 0, 1) := by decide +kernel
theorem dX8_isGoodWithoutHost_41 : decode cX8_isGoodWithoutHost 41 = .ok (.getfield 25, 3) := by decide +kernel
theorem dX8_isGoodWithoutHost_44 : decode cX8_isGoodWithoutHost 44 = .ok (.invokevirtual 172, 3) := by decide +kernel
theorem dX8_isGoodWithoutHost_47 : decode cX8_isGoodWithoutHost 47 = .ok (.aload_n 0, 1) := by decide +kernel
theorem dX8_isGoodWithoutHost_48 : decode cX8_isGoodWithoutHost 48 = .ok (.getfield 25, 3) := by decide +kernel
theorem dX8_isGoodWithoutHost_51 : decode cX8_isGoodWithoutHost 51 = .ok (.getfield 159, 3) := by decide +kernel
theorem dX8_isGoodWithoutHost_54 : decode cX8_isGoodWithoutHost 54 = .ok (.invokevirtual 131, 3) := by decide +kernel
theorem dX8_isGoodWithoutHost_57 : decode cX8_isGoodWithoutHost 57 = .ok (.ifCond .eq 7, 3) := by decide +kernel
theorem dX8_isGoodWithoutHost_60 : decode cX8_isGoodWithoutHost 60 = .ok (.iconst 1, 1) := by decide +kernel
theorem dX8_isGoodWithoutHost_61 : decode cX8_isGoodWithoutHost 61 = .ok (.goto 4, 3) := by decide +kernel
theorem dX8_isGoodWithoutHost_64 : decode cX8_isGoodWithoutHost 64 = .ok (.iconst 0, 1) := by decide +kernel
theorem dX8_isGoodWithoutHost_65 : decode cX8_isGoodWithoutHost 65 = .ok (.ireturn, 1) := by decide +kernel
theorem dX8_takesWord_0 : decode cX8_takesWord 0 = .ok (.aload_n 1, 1) := by decide +kernel
theorem dX8_takesWord_1 : decode cX8_takesWord 1 = .ok (.bipush 10, 2) := by decide +kernel
theorem dX8_takesWord_3 : decode cX8_takesWord 3 = .ok (.invokevirtual 113, 3) := by decide +kernel
theorem dX8_takesWord_6 : decode cX8_takesWord 6 = .ok (.istore_n 2, 1) := by decide +kernel
theorem dX8_takesWord_7 : decode cX8_takesWord 7 = .ok (.aload_n 1, 1) := by decide +kernel
theorem dX8_takesWord_8 : decode cX8_takesWord 8 = .ok (.getfield 83, 3) := by decide +kernel
theorem dX8_takesWord_11 : decode cX8_takesWord 11 = .ok (.iconst 1, 1) := by decide +kernel
theorem dX8_takesWord_12 : decode cX8_takesWord 12 = .ok (.laload, 1) := by decide +kernel
theorem dX8_takesWord_13 : decode cX8_takesWord 13 = .ok (.aload_n 0, 1) := by decide +kernel
theorem dX8_takesWord_14 : decode cX8_takesWord 14 = .ok (.getfield 25, 3) := by decide +kernel
theorem dX8_takesWord_17 : decode cX8_takesWord 17 = .ok (.getfield 139, 3) := by decide +kernel
theorem dX8_takesWord_20 : decode cX8_takesWord 20 = .ok (.i2l, 1) := by decide +kernel
theorem dX8_takesWord_21 : decode cX8_takesWord 21 = .ok (.lcmp, 1) := by decide +kernel
theorem dX8_takesWord_22 : decode cX8_takesWord 22 = .ok (.ifCond .ne 49, 3) := by decide +kernel
theorem dX8_takesWord_25 : decode cX8_takesWord 25 = .ok (.aload_n 1, 1) := by decide +kernel
theorem dX8_takesWord_26 : decode cX8_takesWord 26 = .ok (.getfield 83, 3) := by decide +kernel
theorem dX8_takesWord_29 : decode cX8_takesWord 29 = .ok (.iconst 2, 1) := by decide +kernel
theorem dX8_takesWord_30 : decode cX8_takesWord 30 = .ok (.laload, 1) := by decide +kernel
theorem dX8_takesWord_31 : decode cX8_takesWord 31 = .ok (.aload_n 0, 1) := by decide +kernel
theorem dX8_takesWord_32 : decode cX8_takesWord 32 = .ok (.getfield 25, 3) := by decide +kernel
theorem dX8_takesWord_35 : decode cX8_takesWord 35 = .ok (.getfield 153, 3) := by decide +kernel
theorem dX8_takesWord_38 : decode cX8_takesWord 38 = .ok (.i2l, 1) := by decide +kernel
theorem dX8_takesWord_39 : decode cX8_takesWord 39 = .ok (.lcmp, 1) := by decide +kernel
theorem dX8_takesWord_40 : decode cX8_takesWord 40 = .ok (.ifCond .ne 31, 3) := by decide +kernel
theorem dX8_takesWord_43 : decode cX8_takesWord 43 = .ok (.aload_n 0, 1) := by decide +kernel
theorem dX8_takesWord_44 : decode cX8_takesWord 44 = .ok (.getfield 32, 3) := by decide +kernel
theorem dX8_takesWord_47 : decode cX8_takesWord 47 = .ok (.getfield 121, 3) := by decide +kernel
theorem dX8_takesWord_50 : decode cX8_takesWord 50 = .ok (.aload_n 0, 1) := by decide +kernel
theorem dX8_takesWord_51 : decode cX8_takesWord 51 = .ok (.getfield 25, 3) := by decide +kernel
theorem dX8_takesWord_54 : decode cX8_takesWord 54 = .ok (.iload_n 2, 1) := by decide +kernel
theorem dX8_takesWord_55 : decode cX8_takesWord 55 = .ok (.invokevirtual 176, 3) := by decide +kernel
theorem dX8_takesWord_58 : decode cX8_takesWord 58 = .ok (.aload_n 1, 1) := by decide +kernel
theorem dX8_takesWord_59 : decode cX8_takesWord 59 = .ok (.getfield 83, 3) := by decide +kernel
theorem dX8_takesWord_62 : decode cX8_takesWord 62 = .ok (.bipush 11, 2) := by decide +kernel
theorem dX8_takesWord_64 : decode cX8_takesWord 64 = .ok (.laload, 1) := by decide +kernel
theorem dX8_takesWord_65 : decode cX8_takesWord 65 = .ok (.invokevirtual 131, 3) := by decide +kernel
theorem dX8_takesWord_68 : decode cX8_takesWord 68 = .ok (.ifCond .ne 5, 3) := by decide +kernel
theorem dX8_takesWord_71 : decode cX8_takesWord 71 = .ok (.iconst 0, 1) := by decide +kernel
theorem dX8_takesWord_72 : decode cX8_takesWord 72 = .ok (.ireturn, 1) := by decide +kernel
theorem dX8_takesWord_73 : decode cX8_takesWord 73 = .ok (.aload_n 0, 1) := by decide +kernel
theorem dX8_takesWord_74 : decode cX8_takesWord 74 = .ok (.iload_n 2, 1) := by decide +kernel
theorem dX8_takesWord_75 : decode cX8_takesWord 75 = .ok (.putfield 180, 3) := by decide +kernel
theorem dX8_takesWord_78 : decode cX8_takesWord 78 = .ok (.aload_n 0, 1) := by decide +kernel
theorem dX8_takesWord_79 : decode cX8_takesWord 79 = .ok (.getfield 32, 3) := by decide +kernel
theorem dX8_takesWord_82 : decode cX8_takesWord 82 = .ok (.getfield 79, 3) := by decide +kernel
theorem dX8_takesWord_85 : decode cX8_takesWord 85 = .ok (.getfield 83, 3) := by decide +kernel
theorem dX8_takesWord_88 : decode cX8_takesWord 88 = .ok (.bipush 10, 2) := by decide +kernel
theorem dX8_takesWord_90 : decode cX8_takesWord 90 = .ok (.aload_n 0, 1) := by decide +kernel
theorem dX8_takesWord_91 : decode cX8_takesWord 91 = .ok (.getfield 180, 3) := by decide +kernel
theorem dX8_takesWord_94 : decode cX8_takesWord 94 = .ok (.i2l, 1) := by decide +kernel
theorem dX8_takesWord_95 : decode cX8_takesWord 95 = .ok (.lastore, 1) := by decide +kernel
theorem dX8_takesWord_96 : decode cX8_takesWord 96 = .ok (.aload_n 0, 1) := by decide +kernel
theorem dX8_takesWord_97 : decode cX8_takesWord 97 = .ok (.getfield 32, 3) := by decide +kernel
theorem dX8_takesWord_100 : decode cX8_takesWord 100 = .ok (.getfield 79, 3) := by decide +kernel
theorem dX8_takesWord_103 : decode cX8_takesWord 103 = .ok (.getfield 83, 3) := by decide +kernel
theorem dX8_takesWord_106 : decode cX8_takesWord 106 = .ok (.bipush 8, 2) := by decide +kernel
theorem dX8_takesWord_108 : decode cX8_takesWord 108 = .ok (.aload_n 1, 1) := by decide +kernel
theorem dX8_takesWord_109 : decode cX8_takesWord 109 = .ok (.getfield 83, 3) := by decide +kernel
theorem dX8_takesWord_112 : decode cX8_takesWord 112 = .ok (.bipush 8, 2) := by decide +kernel
theorem dX8_takesWord_114 : decode cX8_takesWord 114 = .ok (.laload, 1) := by decide +kernel
theorem dX8_takesWord_115 : decode cX8_takesWord 115 = .ok (.lastore, 1) := by decide +kernel
theorem dX8_takesWord_116 : decode cX8_takesWord 116 = .ok (.aload_n 0, 1) := by decide +kernel
theorem dX8_takesWord_117 : decode cX8_takesWord 117 = .ok (.bipush 9, 2) := by decide +kernel
theorem dX8_takesWord_119 : decode cX8_takesWord 119 = .ok (.bipush 10, 2) := by decide +kernel
theorem dX8_takesWord_121 : decode cX8_takesWord 121 = .ok (.invokevirtual 89, 3) := by decide +kernel
theorem dX8_takesWord_124 : decode cX8_takesWord 124 = .ok (.iconst 1, 1) := by decide +kernel
theorem dX8_takesWord_125 : decode cX8_takesWord 125 = .ok (.ireturn, 1) := by decide +kernel
theorem dX8_takeLast_0 : decode cX8_takeLast 0 = .ok (.aload_n 0, 1) := by decide +kernel
theorem dX8_takeLast_1 : decode cX8_takeLast 1 = .ok (.getfield 180, 3) := by decide +kernel
theorem dX8_takeLast_4 : decode cX8_takeLast 4 = .ok (.iconst 1, 1) := by decide +kernel
theorem dX8_takeLast_5 : decode cX8_takeLast 5 = .ok (.if_icmp .ne 49, 3) := by decide +kernel
theorem dX8_takeLast_8 : decode cX8_takeLast 8 = .ok (.aload_n 1, 1) := by decide +kernel
theorem dX8_takeLast_9 : decode cX8_takeLast 9 = .ok (.getfield 83, 3) := by decide +kernel
theorem dX8_takeLast_12 : decode cX8_takeLast 12 = .ok (.bipush 7, 2) := by decide +kernel
theorem dX8_takeLast_14 : decode cX8_takeLast 14 = .ok (.laload, 1) := by decide +kernel
theorem dX8_takeLast_15 : decode cX8_takeLast 15 = .ok (.ldc2_w 151, 3) := by decide +kernel
theorem dX8_takeLast_18 : decode cX8_takeLast 18 = .ok (.lcmp, 1) := by decide +kernel
theorem dX8_takeLast_19 : decode cX8_takeLast 19 = .ok (.ifCond .ne 35, 3) := by decide +kernel
theorem dX8_takeLast_22 : decode cX8_takeLast 22 = .ok (.aload_n 0, 1) := by decide +kernel
theorem dX8_takeLast_23 : decode cX8_takeLast 23 = .ok (.getfield 32, 3) := by decide +kernel
theorem dX8_takeLast_26 : decode cX8_takeLast 26 = .ok (.getfield 121, 3) := by decide +kernel
theorem dX8_takeLast_29 : decode cX8_takeLast 29 = .ok (.aload_n 0, 1) := by decide +kernel
theorem dX8_takeLast_30 : decode cX8_takeLast 30 = .ok (.getfield 25, 3) := by decide +kernel
theorem dX8_takeLast_33 : decode cX8_takeLast 33 = .ok (.iconst 2, 1) := by decide +kernel
theorem dX8_takeLast_34 : decode cX8_takeLast 34 = .ok (.invokevirtual 183, 3) := by decide +kernel
theorem dX8_takeLast_37 : decode cX8_takeLast 37 = .ok (.aload_n 1, 1) := by decide +kernel
theorem dX8_takeLast_38 : decode cX8_takeLast 38 = .ok (.getfield 83, 3) := by decide +kernel
theorem dX8_takeLast_41 : decode cX8_takeLast 41 = .ok (.bipush 8, 2) := by decide +kernel
theorem dX8_takeLast_43 : decode cX8_takeLast 43 = .ok (.laload, 1) := by decide +kernel
theorem dX8_takeLast_44 : decode cX8_takeLast 44 = .ok (.invokevirtual 131, 3) := by decide +kernel
theorem dX8_takeLast_47 : decode cX8_takeLast 47 = .ok (.ifCond .eq 7, 3) := by decide +kernel
theorem dX8_takeLast_50 : decode cX8_takeLast 50 = .ok (.iconst 1, 1) := by decide +kernel
theorem dX8_takeLast_51 : decode cX8_takeLast 51 = .ok (.goto 4, 3) := by decide +kernel
theorem dX8_takeLast_54 : decode cX8_takeLast 54 = .ok (.iconst 0, 1) := by decide +kernel
theorem dX8_takeLast_55 : decode cX8_takeLast 55 = .ok (.istore_n 2, 1) := by decide +kernel
theorem dX8_takeLast_56 : decode cX8_takeLast 56 = .ok (.aload_n 0, 1) := by decide +kernel
theorem dX8_takeLast_57 : decode cX8_takeLast 57 = .ok (.iload_n 2, 1) := by decide +kernel
theorem dX8_takeLast_58 : decode cX8_takeLast 58 = .ok (.ifCond .eq 7, 3) := by decide +kernel
theorem dX8_takeLast_61 : decode cX8_takeLast 61 = .ok (.iconst 1, 1) := by decide +kernel
theorem dX8_takeLast_62 : decode cX8_takeLast 62 = .ok (.goto 4, 3) := by decide +kernel
theorem dX8_takeLast_65 : decode cX8_takeLast 65 = .ok (.iconst 3, 1) := by decide +kernel
theorem dX8_takeLast_66 : decode cX8_takeLast 66 = .ok (.invokevirtual 135, 3) := by decide +kernel
theorem dX8_takeLast_69 : decode cX8_takeLast 69 = .ok (.return_, 1) := by decide +kernel
theorem dX8_sendBatch_0 : decode cX8_sendBatch 0 = .ok (.iconst 0, 1) := by decide +kernel
theorem dX8_sendBatch_1 : decode cX8_sendBatch 1 = .ok (.istore_n 1, 1) := by decide +kernel
theorem dX8_sendBatch_2 : decode cX8_sendBatch 2 = .ok (.iconst 0, 1) := by decide +kernel
theorem dX8_sendBatch_3 : decode cX8_sendBatch 3 = .ok (.istore_n 2, 1) := by decide +kernel
theorem dX8_sendBatch_4 : decode cX8_sendBatch 4 = .ok (.iload_n 2, 1) := by decide +kernel
theorem dX8_sendBatch_5 : decode cX8_sendBatch 5 = .ok (.aload_n 0, 1) := by decide +kernel
theorem dX8_sendBatch_6 : decode cX8_sendBatch 6 = .ok (.getfield 12, 3) := by decide +kernel
theorem dX8_sendBatch_9 : decode cX8_sendBatch 9 = .ok (.invokevirtual 186, 3) := by decide +kernel
theorem dX8_sendBatch_12 : decode cX8_sendBatch 12 = .ok (.if_icmp .ge 32, 3) := by decide +kernel
theorem dX8_sendBatch_15 : decode cX8_sendBatch 15 = .ok (.aload_n 0, 1) := by decide +kernel
theorem dX8_sendBatch_16 : decode cX8_sendBatch 16 = .ok (.bipush 11, 2) := by decide +kernel
theorem dX8_sendBatch_18 : decode cX8_sendBatch 18 = .ok (.aload_n 0, 1) := by decide +kernel
theorem dX8_sendBatch_19 : decode cX8_sendBatch 19 = .ok (.getfield 12, 3) := by decide +kernel
theorem dX8_sendBatch_22 : decode cX8_sendBatch 22 = .ok (.iload_n 2, 1) := by decide +kernel
theorem dX8_sendBatch_23 : decode cX8_sendBatch 23 = .ok (.invokevirtual 190, 3) := by decide +kernel
theorem dX8_sendBatch_26 : decode cX8_sendBatch 26 = .ok (.checkcast 22, 3) := by decide +kernel
theorem dX8_sendBatch_29 : decode cX8_sendBatch 29 = .ok (.invokevirtual 162, 3) := by decide +kernel
theorem dX8_sendBatch_32 : decode cX8_sendBatch 32 = .ok (.ifCond .eq 6, 3) := by decide +kernel
theorem dX8_sendBatch_35 : decode cX8_sendBatch 35 = .ok (.iinc 1 1, 3) := by decide +kernel
theorem dX8_sendBatch_38 : decode cX8_sendBatch 38 = .ok (.iinc 2 1, 3) := by decide +kernel
theorem dX8_sendBatch_41 : decode cX8_sendBatch 41 = .ok (.goto (-37), 3) := by decide +kernel
theorem dX8_sendBatch_44 : decode cX8_sendBatch 44 = .ok (.aload_n 0, 1) := by decide +kernel
theorem dX8_sendBatch_45 : decode cX8_sendBatch 45 = .ok (.getfield 12, 3) := by decide +kernel
theorem dX8_sendBatch_48 : decode cX8_sendBatch 48 = .ok (.invokevirtual 194, 3) := by decide +kernel
theorem dX8_sendBatch_51 : decode cX8_sendBatch 51 = .ok (.iload_n 1, 1) := by decide +kernel
theorem dX8_sendBatch_52 : decode cX8_sendBatch 52 = .ok (.ireturn, 1) := by decide +kernel
theorem dX8_sendToHost_0 : decode cX8_sendToHost 0 = .ok (.aload_n 0, 1) := by decide +kernel
theorem dX8_sendToHost_1 : decode cX8_sendToHost 1 = .ok (.getfield 32, 3) := by decide +kernel
theorem dX8_sendToHost_4 : decode cX8_sendToHost 4 = .ok (.getfield 79, 3) := by decide +kernel
theorem dX8_sendToHost_7 : decode cX8_sendToHost 7 = .ok (.getfield 83, 3) := by decide +kernel
theorem dX8_sendToHost_10 : decode cX8_sendToHost 10 = .ok (.astore_n 3, 1) := by decide +kernel
theorem dX8_sendToHost_11 : decode cX8_sendToHost 11 = .ok (.aload_n 3, 1) := by decide +kernel
theorem dX8_sendToHost_12 : decode cX8_sendToHost 12 = .ok (.iconst 1, 1) := by decide +kernel
theorem dX8_sendToHost_13 : decode cX8_sendToHost 13 = .ok (.aload_n 2, 1) := by decide +kernel
theorem dX8_sendToHost_14 : decode cX8_sendToHost 14 = .ok (.getfield 139, 3) := by decide +kernel
theorem dX8_sendToHost_17 : decode cX8_sendToHost 17 = .ok (.i2l, 1) := by decide +kernel
theorem dX8_sendToHost_18 : decode cX8_sendToHost 18 = .ok (.lastore, 1) := by decide +kernel
theorem dX8_sendToHost_19 : decode cX8_sendToHost 19 = .ok (.aload_n 3, 1) := by decide +kernel
theorem dX8_sendToHost_20 : decode cX8_sendToHost 20 = .ok (.iconst 2, 1) := by decide +kernel
theorem dX8_sendToHost_21 : decode cX8_sendToHost 21 = .ok (.aload_n 2, 1) := by decide +kernel
theorem dX8_sendToHost_22 : decode cX8_sendToHost 22 = .ok (.getfield 153, 3) := by decide +kernel
theorem dX8_sendToHost_25 : decode cX8_sendToHost 25 = .ok (.i2l, 1) := by decide +kernel
theorem dX8_sendToHost_26 : decode cX8_sendToHost 26 = .ok (.lastore, 1) := by decide +kernel
theorem dX8_sendToHost_27 : decode cX8_sendToHost 27 = .ok (.aload_n 3, 1) := by decide +kernel
theorem dX8_sendToHost_28 : decode cX8_sendToHost 28 = .ok (.iconst 3, 1) := by decide +kernel
theorem dX8_sendToHost_29 : decode cX8_sendToHost 29 = .ok (.aload_n 2, 1) := by decide +kernel
theorem dX8_sendToHost_30 : decode cX8_sendToHost 30 = .ok (.getfield 64, 3) := by decide +kernel
theorem dX8_sendToHost_33 : decode cX8_sendToHost 33 = .ok (.lastore, 1) := by decide +kernel
theorem dX8_sendToHost_34 : decode cX8_sendToHost 34 = .ok (.aload_n 3, 1) := by decide +kernel
theorem dX8_sendToHost_35 : decode cX8_sendToHost 35 = .ok (.iconst 4, 1) := by decide +kernel
theorem dX8_sendToHost_36 : decode cX8_sendToHost 36 = .ok (.aload_n 2, 1) := by decide +kernel
theorem dX8_sendToHost_37 : decode cX8_sendToHost 37 = .ok (.getfield 67, 3) := by decide +kernel
theorem dX8_sendToHost_40 : decode cX8_sendToHost 40 = .ok (.lastore, 1) := by decide +kernel
theorem dX8_sendToHost_41 : decode cX8_sendToHost 41 = .ok (.aload_n 3, 1) := by decide +kernel
theorem dX8_sendToHost_42 : decode cX8_sendToHost 42 = .ok (.iconst 5, 1) := by decide +kernel
theorem dX8_sendToHost_43 : decode cX8_sendToHost 43 = .ok (.aload_n 0, 1) := by decide +kernel
theorem dX8_sendToHost_44 : decode cX8_sendToHost 44 = .ok (.getfield 36, 3) := by decide +kernel
theorem dX8_sendToHost_47 : decode cX8_sendToHost 47 = .ok (.i2l, 1) := by decide +kernel
theorem dX8_sendToHost_48 : decode cX8_sendToHost 48 = .ok (.lastore, 1) := by decide +kernel
theorem dX8_sendToHost_49 : decode cX8_sendToHost 49 = .ok (.aload_n 3, 1) := by decide +kernel
theorem dX8_sendToHost_50 : decode cX8_sendToHost 50 = .ok (.bipush 6, 2) := by decide +kernel
theorem dX8_sendToHost_52 : decode cX8_sendToHost 52 = .ok (.aload_n 2, 1) := by decide +kernel
theorem dX8_sendToHost_53 : decode cX8_sendToHost 53 = .ok (.getfield 148, 3) := by decide +kernel
theorem dX8_sendToHost_56 : decode cX8_sendToHost 56 = .ok (.i2l, 1) := by decide +kernel
theorem dX8_sendToHost_57 : decode cX8_sendToHost 57 = .ok (.lastore, 1) := by decide +kernel
theorem dX8_sendToHost_58 : decode cX8_sendToHost 58 = .ok (.aload_n 3, 1) := by decide +kernel
theorem dX8_sendToHost_59 : decode cX8_sendToHost 59 = .ok (.bipush 8, 2) := by decide +kernel
theorem dX8_sendToHost_61 : decode cX8_sendToHost 61 = .ok (.aload_n 2, 1) := by decide +kernel
theorem dX8_sendToHost_62 : decode cX8_sendToHost 62 = .ok (.getfield 159, 3) := by decide +kernel
theorem dX8_sendToHost_65 : decode cX8_sendToHost 65 = .ok (.lastore, 1) := by decide +kernel
theorem dX8_sendToHost_66 : decode cX8_sendToHost 66 = .ok (.aload_n 3, 1) := by decide +kernel
theorem dX8_sendToHost_67 : decode cX8_sendToHost 67 = .ok (.bipush 11, 2) := by decide +kernel
theorem dX8_sendToHost_69 : decode cX8_sendToHost 69 = .ok (.aload_n 0, 1) := by decide +kernel
theorem dX8_sendToHost_70 : decode cX8_sendToHost 70 = .ok (.getfield 32, 3) := by decide +kernel
theorem dX8_sendToHost_73 : decode cX8_sendToHost 73 = .ok (.getfield 121, 3) := by decide +kernel
theorem dX8_sendToHost_76 : decode cX8_sendToHost 76 = .ok (.iload_n 1, 1) := by decide +kernel
theorem dX8_sendToHost_77 : decode cX8_sendToHost 77 = .ok (.aload_n 2, 1) := by decide +kernel
theorem dX8_sendToHost_78 : decode cX8_sendToHost 78 = .ok (.invokevirtual 197, 3) := by decide +kernel
theorem dX8_sendToHost_81 : decode cX8_sendToHost 81 = .ok (.invokevirtual 201, 3) := by decide +kernel
theorem dX8_sendToHost_84 : decode cX8_sendToHost 84 = .ok (.lastore, 1) := by decide +kernel
theorem dX8_sendToHost_85 : decode cX8_sendToHost 85 = .ok (.aload_n 0, 1) := by decide +kernel
theorem dX8_sendToHost_86 : decode cX8_sendToHost 86 = .ok (.getfield 32, 3) := by decide +kernel
theorem dX8_sendToHost_89 : decode cX8_sendToHost 89 = .ok (.iload_n 1, 1) := by decide +kernel
theorem dX8_sendToHost_90 : decode cX8_sendToHost 90 = .ok (.iconst 1, 1) := by decide +kernel
theorem dX8_sendToHost_91 : decode cX8_sendToHost 91 = .ok (.aload_n 0, 1) := by decide +kernel
theorem dX8_sendToHost_92 : decode cX8_sendToHost 92 = .ok (.getfield 36, 3) := by decide +kernel
theorem dX8_sendToHost_95 : decode cX8_sendToHost 95 = .ok (.iconst 2, 1) := by decide +kernel
theorem dX8_sendToHost_96 : decode cX8_sendToHost 96 = .ok (.iconst 0, 1) := by decide +kernel
theorem dX8_sendToHost_97 : decode cX8_sendToHost 97 = .ok (.invokevirtual 204, 3) := by decide +kernel
theorem dX8_sendToHost_100 : decode cX8_sendToHost 100 = .ok (.ireturn, 1) := by decide +kernel
theorem dX8_sendToCard_0 : decode cX8_sendToCard 0 = .ok (.aload_n 0, 1) := by decide +kernel
theorem dX8_sendToCard_1 : decode cX8_sendToCard 1 = .ok (.getfield 32, 3) := by decide +kernel
theorem dX8_sendToCard_4 : decode cX8_sendToCard 4 = .ok (.iload_n 1, 1) := by decide +kernel
theorem dX8_sendToCard_5 : decode cX8_sendToCard 5 = .ok (.iconst 1, 1) := by decide +kernel
theorem dX8_sendToCard_6 : decode cX8_sendToCard 6 = .ok (.aload_n 0, 1) := by decide +kernel
theorem dX8_sendToCard_7 : decode cX8_sendToCard 7 = .ok (.getfield 36, 3) := by decide +kernel
theorem dX8_sendToCard_10 : decode cX8_sendToCard 10 = .ok (.iconst 0, 1) := by decide +kernel
theorem dX8_sendToCard_11 : decode cX8_sendToCard 11 = .ok (.aload_n 0, 1) := by decide +kernel
theorem dX8_sendToCard_12 : decode cX8_sendToCard 12 = .ok (.getfield 55, 3) := by decide +kernel
theorem dX8_sendToCard_15 : decode cX8_sendToCard 15 = .ok (.invokevirtual 204, 3) := by decide +kernel
theorem dX8_sendToCard_18 : decode cX8_sendToCard 18 = .ok (.pop, 1) := by decide +kernel
theorem dX8_sendToCard_19 : decode cX8_sendToCard 19 = .ok (.aload_n 0, 1) := by decide +kernel
theorem dX8_sendToCard_20 : decode cX8_sendToCard 20 = .ok (.iload_n 2, 1) := by decide +kernel
theorem dX8_sendToCard_21 : decode cX8_sendToCard 21 = .ok (.invokevirtual 166, 3) := by decide +kernel
theorem dX8_sendToCard_24 : decode cX8_sendToCard 24 = .ok (.return_, 1) := by decide +kernel
theorem dX8_waitFor_0 : decode cX8_waitFor 0 = .ok (.aload_n 0, 1) := by decide +kernel
theorem dX8_waitFor_1 : decode cX8_waitFor 1 = .ok (.iload_n 1, 1) := by decide +kernel
theorem dX8_waitFor_2 : decode cX8_waitFor 2 = .ok (.putfield 29, 3) := by decide +kernel
theorem dX8_waitFor_5 : decode cX8_waitFor 5 = .ok (.aload_n 0, 1) := by decide +kernel
theorem dX8_waitFor_6 : decode cX8_waitFor 6 = .ok (.iconst 0, 1) := by decide +kernel
theorem dX8_waitFor_7 : decode cX8_waitFor 7 = .ok (.putfield 208, 3) := by decide +kernel
theorem dX8_waitFor_10 : decode cX8_waitFor 10 = .ok (.return_, 1) := by decide +kernel
theorem dX8_end_0 : decode cX8_end 0 = .ok (.aload_n 0, 1) := by decide +kernel
theorem dX8_end_1 : decode cX8_end 1 = .ok (.iload_n 1, 1) := by decide +kernel
theorem dX8_end_2 : decode cX8_end 2 = .ok (.putfield 18, 3) := by decide +kernel
theorem dX8_end_5 : decode cX8_end 5 = .ok (.aload_n 0, 1) := by decide +kernel
theorem dX8_end_6 : decode cX8_end 6 = .ok (.iconst 0, 1) := by decide +kernel
theorem dX8_end_7 : decode cX8_end 7 = .ok (.putfield 29, 3) := by decide +kernel
theorem dX8_end_10 : decode cX8_end 10 = .ok (.return_, 1) := by decide +kernel
theorem dX8_givesUpAfter_0 : decode cX8_givesUpAfter 0 = .ok (.aload_n 0, 1) := by decide +kernel
theorem dX8_givesUpAfter_1 : decode cX8_givesUpAfter 1 = .ok (.getfield 29, 3) := by decide +kernel
theorem dX8_givesUpAfter_4 : decode cX8_givesUpAfter 4 = .ok (.ifCond .ne 5, 3) := by decide +kernel
theorem dX8_givesUpAfter_7 : decode cX8_givesUpAfter 7 = .ok (.iconst 0, 1) := by decide +kernel
theorem dX8_givesUpAfter_8 : decode cX8_givesUpAfter 8 = .ok (.ireturn, 1) := by decide +kernel
theorem dX8_givesUpAfter_9 : decode cX8_givesUpAfter 9 = .ok (.aload_n 0, 1) := by decide +kernel
theorem dX8_givesUpAfter_10 : decode cX8_givesUpAfter 10 = .ok (.dup, 1) := by decide +kernel
theorem dX8_givesUpAfter_11 : decode cX8_givesUpAfter 11 = .ok (.getfield 208, 3) := by decide +kernel
theorem dX8_givesUpAfter_14 : decode cX8_givesUpAfter 14 = .ok (.iload_n 1, 1) := by decide +kernel
theorem dX8_givesUpAfter_15 : decode cX8_givesUpAfter 15 = .ok (.iadd, 1) := by decide +kernel
theorem dX8_givesUpAfter_16 : decode cX8_givesUpAfter 16 = .ok (.putfield 208, 3) := by decide +kernel
theorem dX8_givesUpAfter_19 : decode cX8_givesUpAfter 19 = .ok (.aload_n 0, 1) := by decide +kernel
theorem dX8_givesUpAfter_20 : decode cX8_givesUpAfter 20 = .ok (.getfield 208, 3) := by decide +kernel
theorem dX8_givesUpAfter_23 : decode cX8_givesUpAfter 23 = .ok (.bipush 20, 2) := by decide +kernel
theorem dX8_givesUpAfter_25 : decode cX8_givesUpAfter 25 = .ok (.if_icmp .gt 5, 3) := by decide +kernel
theorem dX8_givesUpAfter_28 : decode cX8_givesUpAfter 28 = .ok (.iconst 0, 1) := by decide +kernel
theorem dX8_givesUpAfter_29 : decode cX8_givesUpAfter 29 = .ok (.ireturn, 1) := by decide +kernel
theorem dX8_givesUpAfter_30 : decode cX8_givesUpAfter 30 = .ok (.aload_n 0, 1) := by decide +kernel
theorem dX8_givesUpAfter_31 : decode cX8_givesUpAfter 31 = .ok (.iconst 4, 1) := by decide +kernel
theorem dX8_givesUpAfter_32 : decode cX8_givesUpAfter 32 = .ok (.invokevirtual 135, 3) := by decide +kernel
theorem dX8_givesUpAfter_35 : decode cX8_givesUpAfter 35 = .ok (.iconst 1, 1) := by decide +kernel
theorem dX8_givesUpAfter_36 : decode cX8_givesUpAfter 36 = .ok (.ireturn, 1) := by decide +kernel
theorem dX9_init_0 : decode cX9_init 0 = .ok (.aload_n 0, 1) := by decide +kernel
theorem dX9_init_1 : decode cX9_init 1 = .ok (.invokespecial 3, 3) := by decide +kernel
theorem dX9_init_4 : decode cX9_init 4 = .ok (.aload_n 0, 1) := by decide +kernel
theorem dX9_init_5 : decode cX9_init 5 = .ok (.bipush 60, 2) := by decide +kernel
theorem dX9_init_7 : decode cX9_init 7 = .ok (.anewarray 9, 3) := by decide +kernel
theorem dX9_init_10 : decode cX9_init 10 = .ok (.putfield 11, 3) := by decide +kernel
theorem dX9_init_13 : decode cX9_init 13 = .ok (.return_, 1) := by decide +kernel
theorem dX9_get_0 : decode cX9_get 0 = .ok (.iload_n 1, 1) := by decide +kernel
theorem dX9_get_1 : decode cX9_get 1 = .ok (.ifCond .lt 20, 3) := by decide +kernel
theorem dX9_get_4 : decode cX9_get 4 = .ok (.iload_n 1, 1) := by decide +kernel
theorem dX9_get_5 : decode cX9_get 5 = .ok (.aload_n 0, 1) := by decide +kernel
theorem dX9_get_6 : decode cX9_get 6 = .ok (.getfield 17, 3) := by decide +kernel
theorem dX9_get_9 : decode cX9_get 9 = .ok (.if_icmp .ge 12, 3) := by decide +kernel
theorem dX9_get_12 : decode cX9_get 12 = .ok (.aload_n 0, 1) := by decide +kernel
theorem dX9_get_13 : decode cX9_get 13 = .ok (.getfield 11, 3) := by decide +kernel
theorem dX9_get_16 : decode cX9_get 16 = .ok (.iload_n 1, 1) := by decide +kernel
theorem dX9_get_17 : decode cX9_get 17 = .ok (.aaload, 1) := by decide +kernel
theorem dX9_get_18 : decode cX9_get 18 = .ok (.goto 4, 3) := by decide +kernel
theorem dX9_get_21 : decode cX9_get 21 = .ok (.aconst_null, 1) := by decide +kernel
theorem dX9_get_22 : decode cX9_get 22 = .ok (.areturn, 1) := by decide +kernel
theorem dX9_add_0 : decode cX9_add 0 = .ok (.aload_n 0, 1) := by decide +kernel
theorem dX9_add_1 : decode cX9_add 1 = .ok (.getfield 17, 3) := by decide +kernel
theorem dX9_add_4 : decode cX9_add 4 = .ok (.bipush 60, 2) := by decide +kernel
theorem dX9_add_6 : decode cX9_add 6 = .ok (.if_icmp .lt 5, 3) := by decide +kernel
theorem dX9_add_9 : decode cX9_add 9 = .ok (.aconst_null, 1) := by decide +kernel
theorem dX9_add_10 : decode cX9_add 10 = .ok (.areturn, 1) := by decide +kernel
theorem dX9_add_11 : decode cX9_add 11 = .ok (.aload_n 0, 1) := by decide +kernel
theorem dX9_add_12 : decode cX9_add 12 = .ok (.getfield 11, 3) := by decide +kernel
theorem dX9_add_15 : decode cX9_add 15 = .ok (.aload_n 0, 1) := by decide +kernel
theorem dX9_add_16 : decode cX9_add 16 = .ok (.getfield 17, 3) := by decide +kernel
theorem dX9_add_19 : decode cX9_add 19 = .ok (.aaload, 1) := by decide +kernel
theorem dX9_add_20 : decode cX9_add 20 = .ok (.ifnonnull 19, 3) := by decide +kernel
theorem dX9_add_23 : decode cX9_add 23 = .ok (.aload_n 0, 1) := by decide +kernel
theorem dX9_add_24 : decode cX9_add 24 = .ok (.getfield 11, 3) := by decide +kernel
theorem dX9_add_27 : decode cX9_add 27 = .ok (.aload_n 0, 1) := by decide +kernel
theorem dX9_add_28 : decode cX9_add 28 = .ok (.getfield 17, 3) := by decide +kernel
theorem dX9_add_31 : decode cX9_add 31 = .ok (.new 9, 3) := by decide +kernel
theorem dX9_add_34 : decode cX9_add 34 = .ok (.dup, 1) := by decide +kernel
theorem dX9_add_35 : decode cX9_add 35 = .ok (.invokespecial 21, 3) := by decide +kernel
theorem dX9_add_38 : decode cX9_add 38 = .ok (.aastore, 1) := by decide +kernel
theorem dX9_add_39 : decode cX9_add 39 = .ok (.aload_n 0, 1) := by decide +kernel
theorem dX9_add_40 : decode cX9_add 40 = .ok (.getfield 11, 3) := by decide +kernel
theorem dX9_add_43 : decode cX9_add 43 = .ok (.aload_n 0, 1) := by decide +kernel
theorem dX9_add_44 : decode cX9_add 44 = .ok (.getfield 17, 3) := by decide +kernel
theorem dX9_add_47 : decode cX9_add 47 = .ok (.aaload, 1) := by decide +kernel
theorem dX9_add_48 : decode cX9_add 48 = .ok (.astore 5, 2) := by decide +kernel
theorem dX9_add_50 : decode cX9_add 50 = .ok (.aload_n 0, 1) := by decide +kernel
theorem dX9_add_51 : decode cX9_add 51 = .ok (.dup, 1) := by decide +kernel
theorem dX9_add_52 : decode cX9_add 52 = .ok (.getfield 17, 3) := by decide +kernel
theorem dX9_add_55 : decode cX9_add 55 = .ok (.iconst 1, 1) := by decide +kernel
theorem dX9_add_56 : decode cX9_add 56 = .ok (.iadd, 1) := by decide +kernel
theorem dX9_add_57 : decode cX9_add 57 = .ok (.putfield 17, 3) := by decide +kernel
theorem dX9_add_60 : decode cX9_add 60 = .ok (.aload 5, 2) := by decide +kernel
theorem dX9_add_62 : decode cX9_add 62 = .ok (.iload_n 1, 1) := by decide +kernel
theorem dX9_add_63 : decode cX9_add 63 = .ok (.putfield 22, 3) := by decide +kernel
theorem dX9_add_66 : decode cX9_add 66 = .ok (.aload 5, 2) := by decide +kernel
theorem dX9_add_68 : decode cX9_add 68 = .ok (.iload_n 2, 1) := by decide +kernel
theorem dX9_add_69 : decode cX9_add 69 = .ok (.putfield 25, 3) := by decide +kernel
theorem dX9_add_72 : decode cX9_add 72 = .ok (.aload 5, 2) := by decide +kernel
theorem dX9_add_74 : decode cX9_add 74 = .ok (.iload_n 3, 1) := by decide +kernel
theorem dX9_add_75 : decode cX9_add 75 = .ok (.putfield 28, 3) := by decide +kernel
theorem dX9_add_78 : decode cX9_add 78 = .ok (.aload 5, 2) := by decide +kernel
theorem dX9_add_80 : decode cX9_add 80 = .ok (.iload 4, 2) := by decide +kernel
theorem dX9_add_82 : decode cX9_add 82 = .ok (.putfield 31, 3) := by decide +kernel
theorem dX9_add_85 : decode cX9_add 85 = .ok (.aload 5, 2) := by decide +kernel
theorem dX9_add_87 : decode cX9_add 87 = .ok (.areturn, 1) := by decide +kernel
theorem dX9_takeOff_0 : decode cX9_takeOff 0 = .ok (.aload_n 0, 1) := by decide +kernel
theorem dX9_takeOff_1 : decode cX9_takeOff 1 = .ok (.iload_n 1, 1) := by decide +kernel
theorem dX9_takeOff_2 : decode cX9_takeOff 2 = .ok (.invokevirtual 34, 3) := by decide +kernel
theorem dX9_takeOff_5 : decode cX9_takeOff 5 = .ok (.astore_n 2, 1) := by decide +kernel
theorem dX9_takeOff_6 : decode cX9_takeOff 6 = .ok (.aload_n 2, 1) := by decide +kernel
theorem dX9_takeOff_7 : decode cX9_takeOff 7 = .ok (.ifnonnull 5, 3) := by decide +kernel
theorem dX9_takeOff_10 : decode cX9_takeOff 10 = .ok (.aconst_null, 1) := by decide +kernel
theorem dX9_takeOff_11 : decode cX9_takeOff 11 = .ok (.areturn, 1) := by decide +kernel
theorem dX9_takeOff_12 : decode cX9_takeOff 12 = .ok (.iload_n 1, 1) := by decide +kernel
theorem dX9_takeOff_13 : decode cX9_takeOff 13 = .ok (.istore_n 3, 1) := by decide +kernel
theorem dX9_takeOff_14 : decode cX9_takeOff 14 = .ok (.iload_n 3, 1) := by decide +kernel
theorem dX9_takeOff_15 : decode cX9_takeOff 15 = .ok (.iconst 1, 1) := by decide +kernel
theorem dX9_takeOff_16 : decode cX9_takeOff 16 = .ok (.iadd, 1) := by decide +kernel
theorem dX9_takeOff_17 : decode cX9_takeOff 17 = .ok (.aload_n 0, 1) := by decide +kernel
theorem dX9_takeOff_18 : decode cX9_takeOff 18 = .ok (.getfield 17, 3) := by decide +kernel
theorem dX9_takeOff_21 : decode cX9_takeOff 21 = .ok (.if_icmp .ge 23, 3) := by decide +kernel
theorem dX9_takeOff_24 : decode cX9_takeOff 24 = .ok (.aload_n 0, 1) := by decide +kernel
theorem dX9_takeOff_25 : decode cX9_takeOff 25 = .ok (.getfield 11, 3) := by decide +kernel
theorem dX9_takeOff_28 : decode cX9_takeOff 28 = .ok (.iload_n 3, 1) := by decide +kernel
theorem dX9_takeOff_29 : decode cX9_takeOff 29 = .ok (.aload_n 0, 1) := by decide +kernel
theorem dX9_takeOff_30 : decode cX9_takeOff 30 = .ok (.getfield 11, 3) := by decide +kernel
theorem dX9_takeOff_33 : decode cX9_takeOff 33 = .ok (.iload_n 3, 1) := by decide +kernel
theorem dX9_takeOff_34 : decode cX9_takeOff 34 = .ok (.iconst 1, 1) := by decide +kernel
theorem dX9_takeOff_35 : decode cX9_takeOff 35 = .ok (.iadd, 1) := by decide +kernel
theorem dX9_takeOff_36 : decode cX9_takeOff 36 = .ok (.aaload, 1) := by decide +kernel
theorem dX9_takeOff_37 : decode cX9_takeOff 37 = .ok (.aastore, 1) := by decide +kernel
theorem dX9_takeOff_38 : decode cX9_takeOff 38 = .ok (.iinc 3 1, 3) := by decide +kernel
theorem dX9_takeOff_41 : decode cX9_takeOff 41 = .ok (.goto (-27), 3) := by decide +kernel
theorem dX9_takeOff_44 : decode cX9_takeOff 44 = .ok (.aload_n 0, 1) := by decide +kernel
theorem dX9_takeOff_45 : decode cX9_takeOff 45 = .ok (.dup, 1) := by decide +kernel
theorem dX9_takeOff_46 : decode cX9_takeOff 46 = .ok (.getfield 17, 3) := by decide +kernel
theorem dX9_takeOff_49 : decode cX9_takeOff 49 = .ok (.iconst 1, 1) := by decide +kernel
theorem dX9_takeOff_50 : decode cX9_takeOff 50 = .ok (.isub, 1) := by decide +kernel
theorem dX9_takeOff_51 : decode cX9_takeOff 51 = .ok (.putfield 17, 3) := by decide +kernel
theorem dX9_takeOff_54 : decode cX9_takeOff 54 = .ok (.aload_n 0, 1) := by decide +kernel
theorem dX9_takeOff_55 : decode cX9_takeOff 55 = .ok (.getfield 11, 3) := by decide +kernel
theorem dX9_takeOff_58 : decode cX9_takeOff 58 = .ok (.aload_n 0, 1) := by decide +kernel
theorem dX9_takeOff_59 : decode cX9_takeOff 59 = .ok (.getfield 17, 3) := by decide +kernel
theorem dX9_takeOff_62 : decode cX9_takeOff 62 = .ok (.aload_n 2, 1) := by decide +kernel
theorem dX9_takeOff_63 : decode cX9_takeOff 63 = .ok (.aastore, 1) := by decide +kernel
theorem dX9_takeOff_64 : decode cX9_takeOff 64 = .ok (.aload_n 2, 1) := by decide +kernel
theorem dX9_takeOff_65 : decode cX9_takeOff 65 = .ok (.areturn, 1) := by decide +kernel
theorem dX10_init_0 : decode cX10_init 0 = .ok (.aload_n 0, 1) := by decide +kernel
theorem dX10_init_1 : decode cX10_init 1 = .ok (.invokespecial 3, 3) := by decide +kernel
theorem dX10_init_4 : decode cX10_init 4 = .ok (.aload_n 0, 1) := by decide +kernel
theorem dX10_init_5 : decode cX10_init 5 = .ok (.new 9, 3) := by decide +kernel
theorem dX10_init_8 : decode cX10_init 8 = .ok (.dup, 1) := by decide +kernel
theorem dX10_init_9 : decode cX10_init 9 = .ok (.invokespecial 11, 3) := by decide +kernel
theorem dX10_init_12 : decode cX10_init 12 = .ok (.putfield 12, 3) := by decide +kernel
theorem dX10_init_15 : decode cX10_init 15 = .ok (.aload_n 0, 1) := by decide +kernel
theorem dX10_init_16 : decode cX10_init 16 = .ok (.new 18, 3) := by decide +kernel
theorem dX10_init_19 : decode cX10_init 19 = .ok (.dup, 1) := by decide +kernel
theorem dX10_init_20 : decode cX10_init 20 = .ok (.invokespecial 20, 3) := by decide +kernel
theorem dX10_init_23 : decode cX10_init 23 = .ok (.putfield 21, 3) := by decide +kernel
theorem dX10_init_26 : decode cX10_init 26 = .ok (.aload_n 0, 1) := by decide +kernel
theorem dX10_init_27 : decode cX10_init 27 = .ok (.new 25, 3) := by decide +kernel
theorem dX10_init_30 : decode cX10_init 30 = .ok (.dup, 1) := by decide +kernel
theorem dX10_init_31 : decode cX10_init 31 = .ok (.invokespecial 27, 3) := by decide +kernel
theorem dX10_init_34 : decode cX10_init 34 = .ok (.putfield 28, 3) := by decide +kernel
theorem dX10_init_37 : decode cX10_init 37 = .ok (.aload_n 0, 1) := by decide +kernel
theorem dX10_init_38 : decode cX10_init 38 = .ok (.new 25, 3) := by decide +kernel
theorem dX10_init_41 : decode cX10_init 41 = .ok (.dup, 1) := by decide +kernel
theorem dX10_init_42 : decode cX10_init 42 = .ok (.invokespecial 27, 3) := by decide +kernel
theorem dX10_init_45 : decode cX10_init 45 = .ok (.putfield 32, 3) := by decide +kernel
theorem dX10_init_48 : decode cX10_init 48 = .ok (.aload_n 0, 1) := by decide +kernel
theorem dX10_init_49 : decode cX10_init 49 = .ok (.new 25, 3) := by decide +kernel
theorem dX10_init_52 : decode cX10_init 52 = .ok (.dup, 1) := by decide +kernel
theorem dX10_init_53 : decode cX10_init 53 = .ok (.invokespecial 27, 3) := by decide +kernel
theorem dX10_init_56 : decode cX10_init 56 = .ok (.putfield 35, 3) := by decide +kernel
theorem dX10_init_59 : decode cX10_init 59 = .ok (.aload_n 0, 1) := by decide +kernel
theorem dX10_init_60 : decode cX10_init 60 = .ok (.new 25, 3) := by decide +kernel
theorem dX10_init_63 : decode cX10_init 63 = .ok (.dup, 1) := by decide +kernel
theorem dX10_init_64 : decode cX10_init 64 = .ok (.invokespecial 27, 3) := by decide +kernel
theorem dX10_init_67 : decode cX10_init 67 = .ok (.putfield 38, 3) := by decide +kernel
theorem dX10_init_70 : decode cX10_init 70 = .ok (.aload_n 0, 1) := by decide +kernel
theorem dX10_init_71 : decode cX10_init 71 = .ok (.new 41, 3) := by decide +kernel
theorem dX10_init_74 : decode cX10_init 74 = .ok (.dup, 1) := by decide +kernel
theorem dX10_init_75 : decode cX10_init 75 = .ok (.invokespecial 43, 3) := by decide +kernel
theorem dX10_init_78 : decode cX10_init 78 = .ok (.putfield 44, 3) := by decide +kernel
theorem dX10_init_81 : decode cX10_init 81 = .ok (.aload_n 0, 1) := by decide +kernel
theorem dX10_init_82 : decode cX10_init 82 = .ok (.new 41, 3) := by decide +kernel
theorem dX10_init_85 : decode cX10_init 85 = .ok (.dup, 1) := by decide +kernel
theorem dX10_init_86 : decode cX10_init 86 = .ok (.invokespecial 43, 3) := by decide +kernel
theorem dX10_init_89 : decode cX10_init 89 = .ok (.putfield 48, 3) := by decide +kernel
theorem dX10_init_92 : decode cX10_init 92 = .ok (.return_, 1) := by decide +kernel
theorem dX10_isCard_0 : decode cX10_isCard 0 = .ok (.iload_n 1, 1) := by decide +kernel
theorem dX10_isCard_1 : decode cX10_isCard 1 = .ok (.ifCond .lt 18, 3) := by decide +kernel
theorem dX10_isCard_4 : decode cX10_isCard 4 = .ok (.iload_n 1, 1) := by decide +kernel
theorem dX10_isCard_5 : decode cX10_isCard 5 = .ok (.aload_n 0, 1) := by decide +kernel
theorem dX10_isCard_6 : decode cX10_isCard 6 = .ok (.getfield 28, 3) := by decide +kernel
theorem dX10_isCard_9 : decode cX10_isCard 9 = .ok (.invokevirtual 51, 3) := by decide +kernel
theorem dX10_isCard_12 : decode cX10_isCard 12 = .ok (.if_icmp .ge 7, 3) := by decide +kernel
theorem dX10_isCard_15 : decode cX10_isCard 15 = .ok (.iconst 1, 1) := by decide +kernel
theorem dX10_isCard_16 : decode cX10_isCard 16 = .ok (.goto 4, 3) := by decide +kernel
theorem dX10_isCard_19 : decode cX10_isCard 19 = .ok (.iconst 0, 1) := by decide +kernel
theorem dX10_isCard_20 : decode cX10_isCard 20 = .ok (.ireturn, 1) := by decide +kernel
theorem dX10_isTerminal_0 : decode cX10_isTerminal 0 = .ok (.iload_n 1, 1) := by decide +kernel
theorem dX10_isTerminal_1 : decode cX10_isTerminal 1 = .ok (.ifCond .lt 18, 3) := by decide +kernel
theorem dX10_isTerminal_4 : decode cX10_isTerminal 4 = .ok (.iload_n 1, 1) := by decide +kernel
theorem dX10_isTerminal_5 : decode cX10_isTerminal 5 = .ok (.aload_n 0, 1) := by decide +kernel
theorem dX10_isTerminal_6 : decode cX10_isTerminal 6 = .ok (.getfield 32, 3) := by decide +kernel
theorem dX10_isTerminal_9 : decode cX10_isTerminal 9 = .ok (.invokevirtual 51, 3) := by decide +kernel
theorem dX10_isTerminal_12 : decode cX10_isTerminal 12 = .ok (.if_icmp .ge 7, 3) := by decide +kernel
theorem dX10_isTerminal_15 : decode cX10_isTerminal 15 = .ok (.iconst 1, 1) := by decide +kernel
theorem dX10_isTerminal_16 : decode cX10_isTerminal 16 = .ok (.goto 4, 3) := by decide +kernel
theorem dX10_isTerminal_19 : decode cX10_isTerminal 19 = .ok (.iconst 0, 1) := by decide +kernel
theorem dX10_isTerminal_20 : decode cX10_isTerminal 20 = .ok (.ireturn, 1) := by decide +kernel
theorem dX10_isSomebody_0 : decode cX10_isSomebody 0 = .ok (.iload_n 1, 1) := by decide +kernel
theorem dX10_isSomebody_1 : decode cX10_isSomebody 1 = .ok (.tableswitch 49 0 2 #[27, 33, 39], 27) := by decide +kernel
theorem dX10_isSomebody_28 : decode cX10_isSomebody 28 = .ok (.aload_n 0, 1) := by decide +kernel
theorem dX10_isSomebody_29 : decode cX10_isSomebody 29 = .ok (.iload_n 2, 1) := by decide +kernel
theorem dX10_isSomebody_30 : decode cX10_isSomebody 30 = .ok (.invokevirtual 55, 3) := by decide +kernel
theorem dX10_isSomebody_33 : decode cX10_isSomebody 33 = .ok (.ireturn, 1) := by decide +kernel
theorem dX10_isSomebody_34 : decode cX10_isSomebody 34 = .ok (.aload_n 0, 1) := by decide +kernel
theorem dX10_isSomebody_35 : decode cX10_isSomebody 35 = .ok (.iload_n 2, 1) := by decide +kernel
theorem dX10_isSomebody_36 : decode cX10_isSomebody 36 = .ok (.invokevirtual 59, 3) := by decide +kernel
theorem dX10_isSomebody_39 : decode cX10_isSomebody 39 = .ok (.ireturn, 1) := by decide +kernel
theorem dX10_isSomebody_40 : decode cX10_isSomebody 40 = .ok (.iload_n 2, 1) := by decide +kernel
theorem dX10_isSomebody_41 : decode cX10_isSomebody 41 = .ok (.ifCond .ne 7, 3) := by decide +kernel
theorem dX10_isSomebody_44 : decode cX10_isSomebody 44 = .ok (.iconst 1, 1) := by decide +kernel
theorem dX10_isSomebody_45 : decode cX10_isSomebody 45 = .ok (.goto 4, 3) := by decide +kernel
theorem dX10_isSomebody_48 : decode cX10_isSomebody 48 = .ok (.iconst 0, 1) := by decide +kernel
theorem dX10_isSomebody_49 : decode cX10_isSomebody 49 = .ok (.ireturn, 1) := by decide +kernel
theorem dX10_isSomebody_50 : decode cX10_isSomebody 50 = .ok (.iconst 0, 1) := by decide +kernel
theorem dX10_isSomebody_51 : decode cX10_isSomebody 51 = .ok (.ireturn, 1) := by decide +kernel
theorem dX10_send_0 : decode cX10_send 0 = .ok (.aload_n 0, 1) := by decide +kernel
theorem dX10_send_1 : decode cX10_send 1 = .ok (.getfield 12, 3) := by decide +kernel
theorem dX10_send_4 : decode cX10_send 4 = .ok (.iload_n 2, 1) := by decide +kernel
theorem dX10_send_5 : decode cX10_send 5 = .ok (.iload_n 3, 1) := by decide +kernel
theorem dX10_send_6 : decode cX10_send 6 = .ok (.iload 4, 2) := by decide +kernel
theorem dX10_send_8 : decode cX10_send 8 = .ok (.iload 5, 2) := by decide +kernel
theorem dX10_send_10 : decode cX10_send 10 = .ok (.invokevirtual 62, 3) := by decide +kernel
theorem dX10_send_13 : decode cX10_send 13 = .ok (.astore 6, 2) := by decide +kernel
theorem dX10_send_15 : decode cX10_send 15 = .ok (.aload 6, 2) := by decide +kernel
theorem dX10_send_17 : decode cX10_send 17 = .ok (.ifnonnull 5, 3) := by decide +kernel
theorem dX10_send_20 : decode cX10_send 20 = .ok (.iconst 0, 1) := by decide +kernel
theorem dX10_send_21 : decode cX10_send 21 = .ok (.ireturn, 1) := by decide +kernel
theorem dX10_send_22 : decode cX10_send 22 = .ok (.aload_n 0, 1) := by decide +kernel
theorem dX10_send_23 : decode cX10_send 23 = .ok (.getfield 48, 3) := by decide +kernel
theorem dX10_send_26 : decode cX10_send 26 = .ok (.iload_n 1, 1) := by decide +kernel
theorem dX10_send_27 : decode cX10_send 27 = .ok (.putfield 66, 3) := by decide +kernel
theorem dX10_send_30 : decode cX10_send 30 = .ok (.aload 6, 2) := by decide +kernel
theorem dX10_send_32 : decode cX10_send 32 = .ok (.aload_n 0, 1) := by decide +kernel
theorem dX10_send_33 : decode cX10_send 33 = .ok (.getfield 48, 3) := by decide +kernel
theorem dX10_send_36 : decode cX10_send 36 = .ok (.invokevirtual 70, 3) := by decide +kernel
theorem dX10_send_39 : decode cX10_send 39 = .ok (.iconst 1, 1) := by decide +kernel
theorem dX10_send_40 : decode cX10_send 40 = .ok (.ireturn, 1) := by decide +kernel
end
section
theorem dX10_purchasesLike_0 : decode cX10_purchasesLike 0 = .ok (.iconst 0, 1) := by decide +kernel
theorem dX10_purchasesLike_1 : decode cX10_purchasesLike 1 = .ok (.istore_n 2, 1) := by decide +kernel
theorem dX10_purchasesLike_2 : decode cX10_purchasesLike 2 = .ok (.iconst 0, 1) := by decide +kernel
theorem dX10_purchasesLike_3 : decode cX10_purchasesLike 3 = .ok (.istore_n 3, 1) := by decide +kernel
theorem dX10_purchasesLike_4 : decode cX10_purchasesLike 4 = .ok (.iload_n 3, 1) := by decide +kernel
theorem dX10_purchasesLike_5 : decode cX10_purchasesLike 5 = .ok (.aload_n 0, 1) := by decide +kernel
theorem dX10_purchasesLike_6 : decode cX10_purchasesLike 6 = .ok (.getfield 35, 3) := by decide +kernel
theorem dX10_purchasesLike_9 : decode cX10_purchasesLike 9 = .ok (.invokevirtual 51, 3) := by decide +kernel
theorem dX10_purchasesLike_12 : decode cX10_purchasesLike 12 = .ok (.if_icmp .ge 63, 3) := by decide +kernel
theorem dX10_purchasesLike_15 : decode cX10_purchasesLike 15 = .ok (.aload_n 0, 1) := by decide +kernel
theorem dX10_purchasesLike_16 : decode cX10_purchasesLike 16 = .ok (.getfield 35, 3) := by decide +kernel
theorem dX10_purchasesLike_19 : decode cX10_purchasesLike 19 = .ok (.iload_n 3, 1) := by decide +kernel
theorem dX10_purchasesLike_20 : decode cX10_purchasesLike 20 = .ok (.invokevirtual 76, 3) := by decide +kernel
theorem dX10_purchasesLike_23 : decode cX10_purchasesLike 23 = .ok (.checkcast 80, 3) := by decide +kernel
theorem dX10_purchasesLike_26 : decode cX10_purchasesLike 26 = .ok (.astore 4, 2) := by decide +kernel
theorem dX10_purchasesLike_28 : decode cX10_purchasesLike 28 = .ok (.aload 4, 2) := by decide +kernel
theorem dX10_purchasesLike_30 : decode cX10_purchasesLike 30 = .ok (.getfield 82, 3) := by decide +kernel
theorem dX10_purchasesLike_33 : decode cX10_purchasesLike 33 = .ok (.aload_n 1, 1) := by decide +kernel
theorem dX10_purchasesLike_34 : decode cX10_purchasesLike 34 = .ok (.getfield 82, 3) := by decide +kernel
theorem dX10_purchasesLike_37 : decode cX10_purchasesLike 37 = .ok (.if_icmp .ne 32, 3) := by decide +kernel
theorem dX10_purchasesLike_40 : decode cX10_purchasesLike 40 = .ok (.aload 4, 2) := by decide +kernel
theorem dX10_purchasesLike_42 : decode cX10_purchasesLike 42 = .ok (.getfield 85, 3) := by decide +kernel
theorem dX10_purchasesLike_45 : decode cX10_purchasesLike 45 = .ok (.aload_n 1, 1) := by decide +kernel
theorem dX10_purchasesLike_46 : decode cX10_purchasesLike 46 = .ok (.getfield 85, 3) := by decide +kernel
theorem dX10_purchasesLike_49 : decode cX10_purchasesLike 49 = .ok (.lcmp, 1) := by decide +kernel
theorem dX10_purchasesLike_50 : decode cX10_purchasesLike 50 = .ok (.ifCond .ne 19, 3) := by decide +kernel
theorem dX10_purchasesLike_53 : decode cX10_purchasesLike 53 = .ok (.aload 4, 2) := by decide +kernel
theorem dX10_purchasesLike_55 : decode cX10_purchasesLike 55 = .ok (.getfield 89, 3) := by decide +kernel
theorem dX10_purchasesLike_58 : decode cX10_purchasesLike 58 = .ok (.aload_n 1, 1) := by decide +kernel
theorem dX10_purchasesLike_59 : decode cX10_purchasesLike 59 = .ok (.getfield 89, 3) := by decide +kernel
theorem dX10_purchasesLike_62 : decode cX10_purchasesLike 62 = .ok (.lcmp, 1) := by decide +kernel
theorem dX10_purchasesLike_63 : decode cX10_purchasesLike 63 = .ok (.ifCond .ne 6, 3) := by decide +kernel
theorem dX10_purchasesLike_66 : decode cX10_purchasesLike 66 = .ok (.iinc 2 1, 3) := by decide +kernel
theorem dX10_purchasesLike_69 : decode cX10_purchasesLike 69 = .ok (.iinc 3 1, 3) := by decide +kernel
theorem dX10_purchasesLike_72 : decode cX10_purchasesLike 72 = .ok (.goto (-68), 3) := by decide +kernel
theorem dX10_purchasesLike_75 : decode cX10_purchasesLike 75 = .ok (.iload_n 2, 1) := by decide +kernel
theorem dX10_purchasesLike_76 : decode cX10_purchasesLike 76 = .ok (.ireturn, 1) := by decide +kernel
theorem dX10_wasAnswered_0 : decode cX10_wasAnswered 0 = .ok (.iconst 0, 1) := by decide +kernel
theorem dX10_wasAnswered_1 : decode cX10_wasAnswered 1 = .ok (.istore_n 2, 1) := by decide +kernel
theorem dX10_wasAnswered_2 : decode cX10_wasAnswered 2 = .ok (.iload_n 2, 1) := by decide +kernel
theorem dX10_wasAnswered_3 : decode cX10_wasAnswered 3 = .ok (.aload_n 0, 1) := by decide +kernel
theorem dX10_wasAnswered_4 : decode cX10_wasAnswered 4 = .ok (.getfield 38, 3) := by decide +kernel
theorem dX10_wasAnswered_7 : decode cX10_wasAnswered 7 = .ok (.invokevirtual 51, 3) := by decide +kernel
theorem dX10_wasAnswered_10 : decode cX10_wasAnswered 10 = .ok (.if_icmp .ge 102, 3) := by decide +kernel
theorem dX10_wasAnswered_13 : decode cX10_wasAnswered 13 = .ok (.aload_n 0, 1) := by decide +kernel
theorem dX10_wasAnswered_14 : decode cX10_wasAnswered 14 = .ok (.getfield 38, 3) := by decide +kernel
theorem dX10_wasAnswered_17 : decode cX10_wasAnswered 17 = .ok (.iload_n 2, 1) := by decide +kernel
theorem dX10_wasAnswered_18 : decode cX10_wasAnswered 18 = .ok (.invokevirtual 76, 3) := by decide +kernel
theorem dX10_wasAnswered_21 : decode cX10_wasAnswered 21 = .ok (.checkcast 80, 3) := by decide +kernel
theorem dX10_wasAnswered_24 : decode cX10_wasAnswered 24 = .ok (.astore_n 3, 1) := by decide +kernel
theorem dX10_wasAnswered_25 : decode cX10_wasAnswered 25 = .ok (.aload_n 3, 1) := by decide +kernel
theorem dX10_wasAnswered_26 : decode cX10_wasAnswered 26 = .ok (.getfield 92, 3) := by decide +kernel
theorem dX10_wasAnswered_29 : decode cX10_wasAnswered 29 = .ok (.aload_n 1, 1) := by decide +kernel
theorem dX10_wasAnswered_30 : decode cX10_wasAnswered 30 = .ok (.getfield 92, 3) := by decide +kernel
theorem dX10_wasAnswered_33 : decode cX10_wasAnswered 33 = .ok (.if_icmp .ne 73, 3) := by decide +kernel
theorem dX10_wasAnswered_36 : decode cX10_wasAnswered 36 = .ok (.aload_n 3, 1) := by decide +kernel
theorem dX10_wasAnswered_37 : decode cX10_wasAnswered 37 = .ok (.getfield 95, 3) := by decide +kernel
theorem dX10_wasAnswered_40 : decode cX10_wasAnswered 40 = .ok (.aload_n 1, 1) := by decide +kernel
theorem dX10_wasAnswered_41 : decode cX10_wasAnswered 41 = .ok (.getfield 95, 3) := by decide +kernel
theorem dX10_wasAnswered_44 : decode cX10_wasAnswered 44 = .ok (.if_icmp .ne 62, 3) := by decide +kernel
theorem dX10_wasAnswered_47 : decode cX10_wasAnswered 47 = .ok (.aload_n 3, 1) := by decide +kernel
theorem dX10_wasAnswered_48 : decode cX10_wasAnswered 48 = .ok (.getfield 85, 3) := by decide +kernel
theorem dX10_wasAnswered_51 : decode cX10_wasAnswered 51 = .ok (.aload_n 1, 1) := by decide +kernel
theorem dX10_wasAnswered_52 : decode cX10_wasAnswered 52 = .ok (.getfield 85, 3) := by decide +kernel
theorem dX10_wasAnswered_55 : decode cX10_wasAnswered 55 = .ok (.lcmp, 1) := by decide +kernel
theorem dX10_wasAnswered_56 : decode cX10_wasAnswered 56 = .ok (.ifCond .ne 50, 3) := by decide +kernel
theorem dX10_wasAnswered_59 : decode cX10_wasAnswered 59 = .ok (.aload_n 3, 1) := by decide +kernel
theorem dX10_wasAnswered_60 : decode cX10_wasAnswered 60 = .ok (.getfield 89, 3) := by decide +kernel
theorem dX10_wasAnswered_63 : decode cX10_wasAnswered 63 = .ok (.aload_n 1, 1) := by decide +kernel
theorem dX10_wasAnswered_64 : decode cX10_wasAnswered 64 = .ok (.getfield 89, 3) := by decide +kernel
theorem dX10_wasAnswered_67 : decode cX10_wasAnswered 67 = .ok (.lcmp, 1) := by decide +kernel
theorem dX10_wasAnswered_68 : decode cX10_wasAnswered 68 = .ok (.ifCond .ne 38, 3) := by decide +kernel
theorem dX10_wasAnswered_71 : decode cX10_wasAnswered 71 = .ok (.aload_n 3, 1) := by decide +kernel
theorem dX10_wasAnswered_72 : decode cX10_wasAnswered 72 = .ok (.getfield 82, 3) := by decide +kernel
theorem dX10_wasAnswered_75 : decode cX10_wasAnswered 75 = .ok (.aload_n 1, 1) := by decide +kernel
theorem dX10_wasAnswered_76 : decode cX10_wasAnswered 76 = .ok (.getfield 82, 3) := by decide +kernel
theorem dX10_wasAnswered_79 : decode cX10_wasAnswered 79 = .ok (.if_icmp .ne 27, 3) := by decide +kernel
theorem dX10_wasAnswered_82 : decode cX10_wasAnswered 82 = .ok (.aload_n 3, 1) := by decide +kernel
theorem dX10_wasAnswered_83 : decode cX10_wasAnswered 83 = .ok (.getfield 98, 3) := by decide +kernel
theorem dX10_wasAnswered_86 : decode cX10_wasAnswered 86 = .ok (.aload_n 1, 1) := by decide +kernel
theorem dX10_wasAnswered_87 : decode cX10_wasAnswered 87 = .ok (.getfield 98, 3) := by decide +kernel
theorem dX10_wasAnswered_90 : decode cX10_wasAnswered 90 = .ok (.if_icmp .ne 16, 3) := by decide +kernel
theorem dX10_wasAnswered_93 : decode cX10_wasAnswered 93 = .ok (.aload_n 3, 1) := by decide +kernel
theorem dX10_wasAnswered_94 : decode cX10_wasAnswered 94 = .ok (.getfield 101, 3) := by decide +kernel
theorem dX10_wasAnswered_97 : decode cX10_wasAnswered 97 = .ok (.aload_n 1, 1) := by decide +kernel
theorem dX10_wasAnswered_98 : decode cX10_wasAnswered 98 = .ok (.getfield 101, 3) := by decide +kernel
theorem dX10_wasAnswered_101 : decode cX10_wasAnswered 101 = .ok (.if_icmp .ne 5, 3) := by decide +kernel
theorem dX10_wasAnswered_104 : decode cX10_wasAnswered 104 = .ok (.iconst 1, 1) := by decide +kernel
theorem dX10_wasAnswered_105 : decode cX10_wasAnswered 105 = .ok (.ireturn, 1) := by decide +kernel
theorem dX10_wasAnswered_106 : decode cX10_wasAnswered 106 = .ok (.iinc 2 1, 3) := by decide +kernel
theorem dX10_wasAnswered_109 : decode cX10_wasAnswered 109 = .ok (.goto (-107), 3) := by decide +kernel
theorem dX10_wasAnswered_112 : decode cX10_wasAnswered 112 = .ok (.iconst 0, 1) := by decide +kernel
theorem dX10_wasAnswered_113 : decode cX10_wasAnswered 113 = .ok (.ireturn, 1) := by decide +kernel
theorem dX11_init_0 : decode cX11_init 0 = .ok (.aload_n 0, 1) := by decide +kernel
theorem dX11_init_1 : decode cX11_init 1 = .ok (.invokespecial 1, 3) := by decide +kernel
theorem dX11_init_4 : decode cX11_init 4 = .ok (.aload_n 0, 1) := by decide +kernel
theorem dX11_init_5 : decode cX11_init 5 = .ok (.new 7, 3) := by decide +kernel
theorem dX11_init_8 : decode cX11_init 8 = .ok (.dup, 1) := by decide +kernel
theorem dX11_init_9 : decode cX11_init 9 = .ok (.invokespecial 9, 3) := by decide +kernel
theorem dX11_init_12 : decode cX11_init 12 = .ok (.putfield 10, 3) := by decide +kernel
theorem dX11_init_15 : decode cX11_init 15 = .ok (.aload_n 0, 1) := by decide +kernel
theorem dX11_init_16 : decode cX11_init 16 = .ok (.new 16, 3) := by decide +kernel
theorem dX11_init_19 : decode cX11_init 19 = .ok (.dup, 1) := by decide +kernel
theorem dX11_init_20 : decode cX11_init 20 = .ok (.aload_n 0, 1) := by decide +kernel
theorem dX11_init_21 : decode cX11_init 21 = .ok (.getfield 10, 3) := by decide +kernel
theorem dX11_init_24 : decode cX11_init 24 = .ok (.invokespecial 18, 3) := by decide +kernel
theorem dX11_init_27 : decode cX11_init 27 = .ok (.putfield 21, 3) := by decide +kernel
theorem dX11_init_30 : decode cX11_init 30 = .ok (.aload_n 0, 1) := by decide +kernel
theorem dX11_init_31 : decode cX11_init 31 = .ok (.bipush 64, 2) := by decide +kernel
theorem dX11_init_33 : decode cX11_init 33 = .ok (.newarray .int, 2) := by decide +kernel
theorem dX11_init_35 : decode cX11_init 35 = .ok (.putfield 25, 3) := by decide +kernel
theorem dX11_init_38 : decode cX11_init 38 = .ok (.aload_n 0, 1) := by decide +kernel
theorem dX11_init_39 : decode cX11_init 39 = .ok (.iconst 0, 1) := by decide +kernel
theorem dX11_init_40 : decode cX11_init 40 = .ok (.putfield 29, 3) := by decide +kernel
theorem dX11_init_43 : decode cX11_init 43 = .ok (.return_, 1) := by decide +kernel
theorem dX11_card_0 : decode cX11_card 0 = .ok (.aload_n 0, 1) := by decide +kernel
theorem dX11_card_1 : decode cX11_card 1 = .ok (.getfield 10, 3) := by decide +kernel
theorem dX11_card_4 : decode cX11_card 4 = .ok (.getfield 33, 3) := by decide +kernel
theorem dX11_card_7 : decode cX11_card 7 = .ok (.invokevirtual 37, 3) := by decide +kernel
theorem dX11_card_10 : decode cX11_card 10 = .ok (.istore 7, 2) := by decide +kernel
theorem dX11_card_12 : decode cX11_card 12 = .ok (.iload 7, 2) := by decide +kernel
theorem dX11_card_14 : decode cX11_card 14 = .ok (.bipush 16, 2) := by decide +kernel
theorem dX11_card_16 : decode cX11_card 16 = .ok (.if_icmp .ge 26, 3) := by decide +kernel
theorem dX11_card_19 : decode cX11_card 19 = .ok (.iload_n 1, 1) := by decide +kernel
theorem dX11_card_20 : decode cX11_card 20 = .ok (.i2l, 1) := by decide +kernel
theorem dX11_card_21 : decode cX11_card 21 = .ok (.lconst 0, 1) := by decide +kernel
theorem dX11_card_22 : decode cX11_card 22 = .ok (.ldc2_w 43, 3) := by decide +kernel
theorem dX11_card_25 : decode cX11_card 25 = .ok (.invokestatic 45, 3) := by decide +kernel
theorem dX11_card_28 : decode cX11_card 28 = .ok (.ifCond .eq 14, 3) := by decide +kernel
theorem dX11_card_31 : decode cX11_card 31 = .ok (.lload_n 2, 1) := by decide +kernel
theorem dX11_card_32 : decode cX11_card 32 = .ok (.lconst 0, 1) := by decide +kernel
theorem dX11_card_33 : decode cX11_card 33 = .ok (.ldc2_w 49, 3) := by decide +kernel
theorem dX11_card_36 : decode cX11_card 36 = .ok (.invokestatic 45, 3) := by decide +kernel
theorem dX11_card_39 : decode cX11_card 39 = .ok (.ifCond .ne 5, 3) := by decide +kernel
theorem dX11_card_42 : decode cX11_card 42 = .ok (.iconst (-1), 1) := by decide +kernel
theorem dX11_card_43 : decode cX11_card 43 = .ok (.ireturn, 1) := by decide +kernel
theorem dX11_card_44 : decode cX11_card 44 = .ok (.iload 4, 2) := by decide +kernel
theorem dX11_card_46 : decode cX11_card 46 = .ok (.i2l, 1) := by decide +kernel
theorem dX11_card_47 : decode cX11_card 47 = .ok (.lconst 0, 1) := by decide +kernel
theorem dX11_card_48 : decode cX11_card 48 = .ok (.ldc2_w 51, 3) := by decide +kernel
theorem dX11_card_51 : decode cX11_card 51 = .ok (.invokestatic 45, 3) := by decide +kernel
theorem dX11_card_54 : decode cX11_card 54 = .ok (.ifCond .eq 15, 3) := by decide +kernel
theorem dX11_card_57 : decode cX11_card 57 = .ok (.lload 5, 2) := by decide +kernel
theorem dX11_card_59 : decode cX11_card 59 = .ok (.lconst 0, 1) := by decide +kernel
theorem dX11_card_60 : decode cX11_card 60 = .ok (.ldc2_w 53, 3) := by decide +kernel
theorem dX11_card_63 : decode cX11_card 63 = .ok (.invokestatic 45, 3) := by decide +kernel
theorem dX11_card_66 : decode cX11_card 66 = .ok (.ifCond .ne 5, 3) := by decide +kernel
theorem dX11_card_69 : decode cX11_card 69 = .ok (.iconst (-1), 1) := by decide +kernel
theorem dX11_card_70 : decode cX11_card 70 = .ok (.ireturn, 1) := by decide +kernel
theorem dX11_card_71 : decode cX11_card 71 = .ok (.aload_n 0, 1) := by decide +kernel
theorem dX11_card_72 : decode cX11_card 72 = .ok (.getfield 10, 3) := by decide +kernel
theorem dX11_card_75 : decode cX11_card 75 = .ok (.getfield 33, 3) := by decide +kernel
theorem dX11_card_78 : decode cX11_card 78 = .ok (.new 55, 3) := by decide +kernel
theorem dX11_card_81 : decode cX11_card 81 = .ok (.dup, 1) := by decide +kernel
theorem dX11_card_82 : decode cX11_card 82 = .ok (.aload_n 0, 1) := by decide +kernel
theorem dX11_card_83 : decode cX11_card 83 = .ok (.getfield 10, 3) := by decide +kernel
theorem dX11_card_86 : decode cX11_card 86 = .ok (.iload 7, 2) := by decide +kernel
theorem dX11_card_88 : decode cX11_card 88 = .ok (.iload_n 1, 1) := by decide +kernel
theorem dX11_card_89 : decode cX11_card 89 = .ok (.lload_n 2, 1) := by decide +kernel
theorem dX11_card_90 : decode cX11_card 90 = .ok (.iload 4, 2) := by decide +kernel
theorem dX11_card_92 : decode cX11_card 92 = .ok (.invokespecial 57, 3) := by decide +kernel
theorem dX11_card_95 : decode cX11_card 95 = .ok (.invokevirtual 60, 3) := by decide +kernel
theorem dX11_card_98 : decode cX11_card 98 = .ok (.pop, 1) := by decide +kernel
theorem dX11_card_99 : decode cX11_card 99 = .ok (.aload_n 0, 1) := by decide +kernel
theorem dX11_card_100 : decode cX11_card 100 = .ok (.getfield 21, 3) := by decide +kernel
theorem dX11_card_103 : decode cX11_card 103 = .ok (.getfield 64, 3) := by decide +kernel
theorem dX11_card_106 : decode cX11_card 106 = .ok (.new 67, 3) := by decide +kernel
theorem dX11_card_109 : decode cX11_card 109 = .ok (.dup, 1) := by decide +kernel
theorem dX11_card_110 : decode cX11_card 110 = .ok (.lload 5, 2) := by decide +kernel
theorem dX11_card_112 : decode cX11_card 112 = .ok (.invokespecial 69, 3) := by decide +kernel
theorem dX11_card_115 : decode cX11_card 115 = .ok (.invokevirtual 60, 3) := by decide +kernel
theorem dX11_card_118 : decode cX11_card 118 = .ok (.pop, 1) := by decide +kernel
theorem dX11_card_119 : decode cX11_card 119 = .ok (.iload 7, 2) := by decide +kernel
theorem dX11_card_121 : decode cX11_card 121 = .ok (.ireturn, 1) := by decide +kernel
theorem dX11_terminal_0 : decode cX11_terminal 0 = .ok (.aload_n 0, 1) := by decide +kernel
theorem dX11_terminal_1 : decode cX11_terminal 1 = .ok (.getfield 10, 3) := by decide +kernel
theorem dX11_terminal_4 : decode cX11_terminal 4 = .ok (.getfield 72, 3) := by decide +kernel
theorem dX11_terminal_7 : decode cX11_terminal 7 = .ok (.invokevirtual 37, 3) := by decide +kernel
theorem dX11_terminal_10 : decode cX11_terminal 10 = .ok (.istore 5, 2) := by decide +kernel
theorem dX11_terminal_12 : decode cX11_terminal 12 = .ok (.iload 5, 2) := by decide +kernel
theorem dX11_terminal_14 : decode cX11_terminal 14 = .ok (.bipush 8, 2) := by decide +kernel
theorem dX11_terminal_16 : decode cX11_terminal 16 = .ok (.if_icmp .ge 25, 3) := by decide +kernel
theorem dX11_terminal_19 : decode cX11_terminal 19 = .ok (.lload_n 1, 1) := by decide +kernel
theorem dX11_terminal_20 : decode cX11_terminal 20 = .ok (.lconst 0, 1) := by decide +kernel
theorem dX11_terminal_21 : decode cX11_terminal 21 = .ok (.ldc2_w 49, 3) := by decide +kernel
theorem dX11_terminal_24 : decode cX11_terminal 24 = .ok (.invokestatic 45, 3) := by decide +kernel
theorem dX11_terminal_27 : decode cX11_terminal 27 = .ok (.ifCond .eq 14, 3) := by decide +kernel
theorem dX11_terminal_30 : decode cX11_terminal 30 = .ok (.lload_n 3, 1) := by decide +kernel
theorem dX11_terminal_31 : decode cX11_terminal 31 = .ok (.lconst 0, 1) := by decide +kernel
theorem dX11_terminal_32 : decode cX11_terminal 32 = .ok (.ldc2_w 49, 3) := by decide +kernel
theorem dX11_terminal_35 : decode cX11_terminal 35 = .ok (.invokestatic 45, 3) := by decide +kernel
theorem dX11_terminal_38 : decode cX11_terminal 38 = .ok (.ifCond .ne 5, 3) := by decide +kernel
theorem dX11_terminal_41 : decode cX11_terminal 41 = .ok (.iconst (-1), 1) := by decide +kernel
theorem dX11_terminal_42 : decode cX11_terminal 42 = .ok (.ireturn, 1) := by decide +kernel
theorem dX11_terminal_43 : decode cX11_terminal 43 = .ok (.aload_n 0, 1) := by decide +kernel
theorem dX11_terminal_44 : decode cX11_terminal 44 = .ok (.getfield 10, 3) := by decide +kernel
theorem dX11_terminal_47 : decode cX11_terminal 47 = .ok (.getfield 72, 3) := by decide +kernel
theorem dX11_terminal_50 : decode cX11_terminal 50 = .ok (.new 75, 3) := by decide +kernel
theorem dX11_terminal_53 : decode cX11_terminal 53 = .ok (.dup, 1) := by decide +kernel
theorem dX11_terminal_54 : decode cX11_terminal 54 = .ok (.aload_n 0, 1) := by decide +kernel
theorem dX11_terminal_55 : decode cX11_terminal 55 = .ok (.getfield 10, 3) := by decide +kernel
theorem dX11_terminal_58 : decode cX11_terminal 58 = .ok (.iload 5, 2) := by decide +kernel
theorem dX11_terminal_60 : decode cX11_terminal 60 = .ok (.lload_n 1, 1) := by decide +kernel
theorem dX11_terminal_61 : decode cX11_terminal 61 = .ok (.lload_n 3, 1) := by decide +kernel
theorem dX11_terminal_62 : decode cX11_terminal 62 = .ok (.invokespecial 77, 3) := by decide +kernel
theorem dX11_terminal_65 : decode cX11_terminal 65 = .ok (.invokevirtual 60, 3) := by decide +kernel
theorem dX11_terminal_68 : decode cX11_terminal 68 = .ok (.pop, 1) := by decide +kernel
theorem dX11_terminal_69 : decode cX11_terminal 69 = .ok (.iload 5, 2) := by decide +kernel
theorem dX11_terminal_71 : decode cX11_terminal 71 = .ok (.ireturn, 1) := by decide +kernel
theorem dX11_purchase_0 : decode cX11_purchase 0 = .ok (.aload_n 0, 1) := by decide +kernel
theorem dX11_purchase_1 : decode cX11_purchase 1 = .ok (.getfield 10, 3) := by decide +kernel
theorem dX11_purchase_4 : decode cX11_purchase 4 = .ok (.iload_n 1, 1) := by decide +kernel
theorem dX11_purchase_5 : decode cX11_purchase 5 = .ok (.invokevirtual 80, 3) := by decide +kernel
theorem dX11_purchase_8 : decode cX11_purchase 8 = .ok (.ifCond .eq 14, 3) := by decide +kernel
theorem dX11_purchase_11 : decode cX11_purchase 11 = .ok (.aload_n 0, 1) := by decide +kernel
theorem dX11_purchase_12 : decode cX11_purchase 12 = .ok (.getfield 10, 3) := by decide +kernel
theorem dX11_purchase_15 : decode cX11_purchase 15 = .ok (.iload_n 2, 1) := by decide +kernel
theorem dX11_purchase_16 : decode cX11_purchase 16 = .ok (.invokevirtual 84, 3) := by decide +kernel
theorem dX11_purchase_19 : decode cX11_purchase 19 = .ok (.ifCond .ne 5, 3) := by decide +kernel
theorem dX11_purchase_22 : decode cX11_purchase 22 = .ok (.iconst (-1), 1) := by decide +kernel
theorem dX11_purchase_23 : decode cX11_purchase 23 = .ok (.ireturn, 1) := by decide +kernel
theorem dX11_purchase_24 : decode cX11_purchase 24 = .ok (.lload_n 3, 1) := by decide +kernel
theorem dX11_purchase_25 : decode cX11_purchase 25 = .ok (.lconst 1, 1) := by decide +kernel
theorem dX11_purchase_26 : decode cX11_purchase 26 = .ok (.ldc2_w 49, 3) := by decide +kernel
theorem dX11_purchase_29 : decode cX11_purchase 29 = .ok (.invokestatic 45, 3) := by decide +kernel
theorem dX11_purchase_32 : decode cX11_purchase 32 = .ok (.ifCond .eq 16, 3) := by decide +kernel
theorem dX11_purchase_35 : decode cX11_purchase 35 = .ok (.iload 5, 2) := by decide +kernel
theorem dX11_purchase_37 : decode cX11_purchase 37 = .ok (.i2l, 1) := by decide +kernel
theorem dX11_purchase_38 : decode cX11_purchase 38 = .ok (.lconst 0, 1) := by decide +kernel
theorem dX11_purchase_39 : decode cX11_purchase 39 = .ok (.ldc2_w 43, 3) := by decide +kernel
theorem dX11_purchase_42 : decode cX11_purchase 42 = .ok (.invokestatic 45, 3) := by decide +kernel
theorem dX11_purchase_45 : decode cX11_purchase 45 = .ok (.ifCond .ne 5, 3) := by decide +kernel
theorem dX11_purchase_48 : decode cX11_purchase 48 = .ok (.iconst (-1), 1) := by decide +kernel
theorem dX11_purchase_49 : decode cX11_purchase 49 = .ok (.ireturn, 1) := by decide +kernel
theorem dX11_purchase_50 : decode cX11_purchase 50 = .ok (.aload_n 0, 1) := by decide +kernel
theorem dX11_purchase_51 : decode cX11_purchase 51 = .ok (.getfield 10, 3) := by decide +kernel
theorem dX11_purchase_54 : decode cX11_purchase 54 = .ok (.getfield 72, 3) := by decide +kernel
theorem dX11_purchase_57 : decode cX11_purchase 57 = .ok (.iload_n 1, 1) := by decide +kernel
theorem dX11_purchase_58 : decode cX11_purchase 58 = .ok (.invokevirtual 87, 3) := by decide +kernel
theorem dX11_purchase_61 : decode cX11_purchase 61 = .ok (.checkcast 75, 3) := by decide +kernel
theorem dX11_purchase_64 : decode cX11_purchase 64 = .ok (.iload_n 2, 1) := by decide +kernel
theorem dX11_purchase_65 : decode cX11_purchase 65 = .ok (.lload_n 3, 1) := by decide +kernel
theorem dX11_purchase_66 : decode cX11_purchase 66 = .ok (.iload 5, 2) := by decide +kernel
theorem dX11_purchase_68 : decode cX11_purchase 68 = .ok (.invokevirtual 91, 3) := by decide +kernel
theorem dX11_purchase_71 : decode cX11_purchase 71 = .ok (.ireturn, 1) := by decide +kernel
theorem dX11_deliver_0 : decode cX11_deliver 0 = .ok (.aload_n 0, 1) := by decide +kernel
theorem dX11_deliver_1 : decode cX11_deliver 1 = .ok (.getfield 10, 3) := by decide +kernel
theorem dX11_deliver_4 : decode cX11_deliver 4 = .ok (.getfield 95, 3) := by decide +kernel
theorem dX11_deliver_7 : decode cX11_deliver 7 = .ok (.iload_n 1, 1) := by decide +kernel
theorem dX11_deliver_8 : decode cX11_deliver 8 = .ok (.invokevirtual 99, 3) := by decide +kernel
theorem dX11_deliver_11 : decode cX11_deliver 11 = .ok (.astore_n 2, 1) := by decide +kernel
theorem dX11_deliver_12 : decode cX11_deliver 12 = .ok (.aload_n 2, 1) := by decide +kernel
theorem dX11_deliver_13 : decode cX11_deliver 13 = .ok (.ifnonnull 5, 3) := by decide +kernel
theorem dX11_deliver_16 : decode cX11_deliver 16 = .ok (.iconst (-1), 1) := by decide +kernel
theorem dX11_deliver_17 : decode cX11_deliver 17 = .ok (.ireturn, 1) := by decide +kernel
theorem dX11_deliver_18 : decode cX11_deliver 18 = .ok (.aload_n 0, 1) := by decide +kernel
theorem dX11_deliver_19 : decode cX11_deliver 19 = .ok (.getfield 10, 3) := by decide +kernel
theorem dX11_deliver_22 : decode cX11_deliver 22 = .ok (.getfield 105, 3) := by decide +kernel
theorem dX11_deliver_25 : decode cX11_deliver 25 = .ok (.astore_n 3, 1) := by decide +kernel
theorem dX11_deliver_26 : decode cX11_deliver 26 = .ok (.aload_n 2, 1) := by decide +kernel
theorem dX11_deliver_27 : decode cX11_deliver 27 = .ok (.aload_n 3, 1) := by decide +kernel
theorem dX11_deliver_28 : decode cX11_deliver 28 = .ok (.invokevirtual 109, 3) := by decide +kernel
theorem dX11_deliver_31 : decode cX11_deliver 31 = .ok (.ifCond .ne 5, 3) := by decide +kernel
theorem dX11_deliver_34 : decode cX11_deliver 34 = .ok (.iconst 0, 1) := by decide +kernel
theorem dX11_deliver_35 : decode cX11_deliver 35 = .ok (.ireturn, 1) := by decide +kernel
theorem dX11_deliver_36 : decode cX11_deliver 36 = .ok (.aload_n 2, 1) := by decide +kernel
theorem dX11_deliver_37 : decode cX11_deliver 37 = .ok (.getfield 115, 3) := by decide +kernel
theorem dX11_deliver_40 : decode cX11_deliver 40 = .ok (.iconst 2, 1) := by decide +kernel
theorem dX11_deliver_41 : decode cX11_deliver 41 = .ok (.if_icmp .ne 16, 3) := by decide +kernel
theorem dX11_deliver_44 : decode cX11_deliver 44 = .ok (.aload_n 0, 1) := by decide +kernel
theorem dX11_deliver_45 : decode cX11_deliver 45 = .ok (.getfield 21, 3) := by decide +kernel
theorem dX11_deliver_48 : decode cX11_deliver 48 = .ok (.aload_n 3, 1) := by decide +kernel
theorem dX11_deliver_49 : decode cX11_deliver 49 = .ok (.invokevirtual 118, 3) := by decide +kernel
theorem dX11_deliver_52 : decode cX11_deliver 52 = .ok (.istore 4, 2) := by decide +kernel
theorem dX11_deliver_54 : decode cX11_deliver 54 = .ok (.goto 104, 3) := by decide +kernel
theorem dX11_deliver_57 : decode cX11_deliver 57 = .ok (.aload_n 2, 1) := by decide +kernel
theorem dX11_deliver_58 : decode cX11_deliver 58 = .ok (.getfield 115, 3) := by decide +kernel
theorem dX11_deliver_61 : decode cX11_deliver 61 = .ok (.iconst 1, 1) := by decide +kernel
theorem dX11_deliver_62 : decode cX11_deliver 62 = .ok (.if_icmp .ne 51, 3) := by decide +kernel
theorem dX11_deliver_65 : decode cX11_deliver 65 = .ok (.aload_n 0, 1) := by decide +kernel
theorem dX11_deliver_66 : decode cX11_deliver 66 = .ok (.getfield 10, 3) := by decide +kernel
theorem dX11_deliver_69 : decode cX11_deliver 69 = .ok (.aload_n 2, 1) := by decide +kernel
theorem dX11_deliver_70 : decode cX11_deliver 70 = .ok (.getfield 121, 3) := by decide +kernel
theorem dX11_deliver_73 : decode cX11_deliver 73 = .ok (.invokevirtual 80, 3) := by decide +kernel
theorem dX11_deliver_76 : decode cX11_deliver 76 = .ok (.ifCond .eq 31, 3) := by decide +kernel
theorem dX11_deliver_79 : decode cX11_deliver 79 = .ok (.aload_n 0, 1) := by decide +kernel
theorem dX11_deliver_80 : decode cX11_deliver 80 = .ok (.getfield 10, 3) := by decide +kernel
theorem dX11_deliver_83 : decode cX11_deliver 83 = .ok (.getfield 72, 3) := by decide +kernel
theorem dX11_deliver_86 : decode cX11_deliver 86 = .ok (.aload_n 2, 1) := by decide +kernel
theorem dX11_deliver_87 : decode cX11_deliver 87 = .ok (.getfield 121, 3) := by decide +kernel
theorem dX11_deliver_90 : decode cX11_deliver 90 = .ok (.invokevirtual 87, 3) := by decide +kernel
theorem dX11_deliver_93 : decode cX11_deliver 93 = .ok (.checkcast 75, 3) := by decide +kernel
theorem dX11_deliver_96 : decode cX11_deliver 96 = .ok (.aload_n 3, 1) := by decide +kernel
theorem dX11_deliver_97 : decode cX11_deliver 97 = .ok (.invokevirtual 124, 3) := by decide +kernel
theorem dX11_deliver_100 : decode cX11_deliver 100 = .ok (.ifCond .eq 7, 3) := by decide +kernel
theorem dX11_deliver_103 : decode cX11_deliver 103 = .ok (.iconst 1, 1) := by decide +kernel
theorem dX11_deliver_104 : decode cX11_deliver 104 = .ok (.goto 4, 3) := by decide +kernel
theorem dX11_deliver_107 : decode cX11_deliver 107 = .ok (.iconst 0, 1) := by decide +kernel
theorem dX11_deliver_108 : decode cX11_deliver 108 = .ok (.istore 4, 2) := by decide +kernel
theorem dX11_deliver_110 : decode cX11_deliver 110 = .ok (.goto 48, 3) := by decide +kernel
theorem dX11_deliver_113 : decode cX11_deliver 113 = .ok (.aload_n 0, 1) := by decide +kernel
theorem dX11_deliver_114 : decode cX11_deliver 114 = .ok (.getfield 10, 3) := by decide +kernel
theorem dX11_deliver_117 : decode cX11_deliver 117 = .ok (.aload_n 2, 1) := by decide +kernel
theorem dX11_deliver_118 : decode cX11_deliver 118 = .ok (.getfield 121, 3) := by decide +kernel
theorem dX11_deliver_121 : decode cX11_deliver 121 = .ok (.invokevirtual 84, 3) := by decide +kernel
theorem dX11_deliver_124 : decode cX11_deliver 124 = .ok (.ifCond .eq 31, 3) := by decide +kernel
theorem dX11_deliver_127 : decode cX11_deliver 127 = .ok (.aload_n 0, 1) := by decide +kernel
theorem dX11_deliver_128 : decode cX11_deliver 128 = .ok (.getfield 10, 3) := by decide +kernel
theorem dX11_deliver_131 : decode cX11_deliver 131 = .ok (.getfield 33, 3) := by decide +kernel
theorem dX11_deliver_134 : decode cX11_deliver 134 = .ok (.aload_n 2, 1) := by decide +kernel
theorem dX11_deliver_135 : decode cX11_deliver 135 = .ok (.getfield 121, 3) := by decide +kernel
theorem dX11_deliver_138 : decode cX11_deliver 138 = .ok (.invokevirtual 87, 3) := by decide +kernel
theorem dX11_deliver_141 : decode cX11_deliver 141 = .ok (.checkcast 55, 3) := by decide +kernel
theorem dX11_deliver_144 : decode cX11_deliver 144 = .ok (.aload_n 3, 1) := by decide +kernel
theorem dX11_deliver_145 : decode cX11_deliver 145 = .ok (.invokevirtual 125, 3) := by decide +kernel
theorem dX11_deliver_148 : decode cX11_deliver 148 = .ok (.ifCond .eq 7, 3) := by decide +kernel
theorem dX11_deliver_151 : decode cX11_deliver 151 = .ok (.iconst 1, 1) := by decide +kernel
theorem dX11_deliver_152 : decode cX11_deliver 152 = .ok (.goto 4, 3) := by decide +kernel
theorem dX11_deliver_155 : decode cX11_deliver 155 = .ok (.iconst 0, 1) := by decide +kernel
theorem dX11_deliver_156 : decode cX11_deliver 156 = .ok (.istore 4, 2) := by decide +kernel
theorem dX11_deliver_158 : decode cX11_deliver 158 = .ok (.iload 4, 2) := by decide +kernel
theorem dX11_deliver_160 : decode cX11_deliver 160 = .ok (.ifCond .eq 7, 3) := by decide +kernel
theorem dX11_deliver_163 : decode cX11_deliver 163 = .ok (.iconst 1, 1) := by decide +kernel
theorem dX11_deliver_164 : decode cX11_deliver 164 = .ok (.goto 4, 3) := by decide +kernel
theorem dX11_deliver_167 : decode cX11_deliver 167 = .ok (.iconst 0, 1) := by decide +kernel
theorem dX11_deliver_168 : decode cX11_deliver 168 = .ok (.ireturn, 1) := by decide +kernel
theorem dX11_alter_0 : decode cX11_alter 0 = .ok (.aload_n 0, 1) := by decide +kernel
theorem dX11_alter_1 : decode cX11_alter 1 = .ok (.getfield 10, 3) := by decide +kernel
theorem dX11_alter_4 : decode cX11_alter 4 = .ok (.getfield 95, 3) := by decide +kernel
theorem dX11_alter_7 : decode cX11_alter 7 = .ok (.iload_n 1, 1) := by decide +kernel
theorem dX11_alter_8 : decode cX11_alter 8 = .ok (.invokevirtual 126, 3) := by decide +kernel
theorem dX11_alter_11 : decode cX11_alter 11 = .ok (.astore 4, 2) := by decide +kernel
theorem dX11_alter_13 : decode cX11_alter 13 = .ok (.aload 4, 2) := by decide +kernel
theorem dX11_alter_15 : decode cX11_alter 15 = .ok (.ifnull 24, 3) := by decide +kernel
theorem dX11_alter_18 : decode cX11_alter 18 = .ok (.aload 4, 2) := by decide +kernel
theorem dX11_alter_20 : decode cX11_alter 20 = .ok (.iload_n 2, 1) := by decide +kernel
theorem dX11_alter_21 : decode cX11_alter 21 = .ok (.invokevirtual 128, 3) := by decide +kernel
theorem dX11_alter_24 : decode cX11_alter 24 = .ok (.ifCond .eq 15, 3) := by decide +kernel
theorem dX11_alter_27 : decode cX11_alter 27 = .ok (.iload_n 3, 1) := by decide +kernel
theorem dX11_alter_28 : decode cX11_alter 28 = .ok (.i2l, 1) := by decide +kernel
theorem dX11_alter_29 : decode cX11_alter 29 = .ok (.lconst 0, 1) := by decide +kernel
theorem dX11_alter_30 : decode cX11_alter 30 = .ok (.ldc2_w 131, 3) := by decide +kernel
theorem dX11_alter_33 : decode cX11_alter 33 = .ok (.invokestatic 45, 3) := by decide +kernel
theorem dX11_alter_36 : decode cX11_alter 36 = .ok (.ifCond .ne 5, 3) := by decide +kernel
theorem dX11_alter_39 : decode cX11_alter 39 = .ok (.iconst 0, 1) := by decide +kernel
theorem dX11_alter_40 : decode cX11_alter 40 = .ok (.ireturn, 1) := by decide +kernel
theorem dX11_alter_41 : decode cX11_alter 41 = .ok (.aload 4, 2) := by decide +kernel
theorem dX11_alter_43 : decode cX11_alter 43 = .ok (.getfield 133, 3) := by decide +kernel
theorem dX11_alter_46 : decode cX11_alter 46 = .ok (.iload_n 2, 1) := by decide +kernel
theorem dX11_alter_47 : decode cX11_alter 47 = .ok (.iload_n 3, 1) := by decide +kernel
theorem dX11_alter_48 : decode cX11_alter 48 = .ok (.iastore, 1) := by decide +kernel
theorem dX11_alter_49 : decode cX11_alter 49 = .ok (.iconst 1, 1) := by decide +kernel
theorem dX11_alter_50 : decode cX11_alter 50 = .ok (.ireturn, 1) := by decide +kernel
theorem dX11_drop_0 : decode cX11_drop 0 = .ok (.aload_n 0, 1) := by decide +kernel
theorem dX11_drop_1 : decode cX11_drop 1 = .ok (.getfield 10, 3) := by decide +kernel
theorem dX11_drop_4 : decode cX11_drop 4 = .ok (.getfield 95, 3) := by decide +kernel
theorem dX11_drop_7 : decode cX11_drop 7 = .ok (.iload_n 1, 1) := by decide +kernel
theorem dX11_drop_8 : decode cX11_drop 8 = .ok (.invokevirtual 99, 3) := by decide +kernel
theorem dX11_drop_11 : decode cX11_drop 11 = .ok (.ifnull 7, 3) := by decide +kernel
theorem dX11_drop_14 : decode cX11_drop 14 = .ok (.iconst 1, 1) := by decide +kernel
theorem dX11_drop_15 : decode cX11_drop 15 = .ok (.goto 4, 3) := by decide +kernel
theorem dX11_drop_18 : decode cX11_drop 18 = .ok (.iconst 0, 1) := by decide +kernel
theorem dX11_drop_19 : decode cX11_drop 19 = .ok (.ireturn, 1) := by decide +kernel
theorem dX11_again_0 : decode cX11_again 0 = .ok (.aload_n 0, 1) := by decide +kernel
theorem dX11_again_1 : decode cX11_again 1 = .ok (.getfield 10, 3) := by decide +kernel
theorem dX11_again_4 : decode cX11_again 4 = .ok (.getfield 95, 3) := by decide +kernel
theorem dX11_again_7 : decode cX11_again 7 = .ok (.iload_n 1, 1) := by decide +kernel
theorem dX11_again_8 : decode cX11_again 8 = .ok (.invokevirtual 126, 3) := by decide +kernel
theorem dX11_again_11 : decode cX11_again 11 = .ok (.astore_n 2, 1) := by decide +kernel
theorem dX11_again_12 : decode cX11_again 12 = .ok (.aload_n 2, 1) := by decide +kernel
theorem dX11_again_13 : decode cX11_again 13 = .ok (.ifnonnull 5, 3) := by decide +kernel
theorem dX11_again_16 : decode cX11_again 16 = .ok (.iconst 0, 1) := by decide +kernel
theorem dX11_again_17 : decode cX11_again 17 = .ok (.ireturn, 1) := by decide +kernel
theorem dX11_again_18 : decode cX11_again 18 = .ok (.aload_n 0, 1) := by decide +kernel
theorem dX11_again_19 : decode cX11_again 19 = .ok (.getfield 10, 3) := by decide +kernel
theorem dX11_again_22 : decode cX11_again 22 = .ok (.getfield 95, 3) := by decide +kernel
theorem dX11_again_25 : decode cX11_again 25 = .ok (.aload_n 2, 1) := by decide +kernel
theorem dX11_again_26 : decode cX11_again 26 = .ok (.getfield 136, 3) := by decide +kernel
theorem dX11_again_29 : decode cX11_again 29 = .ok (.aload_n 2, 1) := by decide +kernel
theorem dX11_again_30 : decode cX11_again 30 = .ok (.getfield 139, 3) := by decide +kernel
theorem dX11_again_33 : decode cX11_again 33 = .ok (.aload_n 2, 1) := by decide +kernel
theorem dX11_again_34 : decode cX11_again 34 = .ok (.getfield 115, 3) := by decide +kernel
theorem dX11_again_37 : decode cX11_again 37 = .ok (.aload_n 2, 1) := by decide +kernel
theorem dX11_again_38 : decode cX11_again 38 = .ok (.getfield 121, 3) := by decide +kernel
theorem dX11_again_41 : decode cX11_again 41 = .ok (.invokevirtual 142, 3) := by decide +kernel
theorem dX11_again_44 : decode cX11_again 44 = .ok (.astore_n 3, 1) := by decide +kernel
theorem dX11_again_45 : decode cX11_again 45 = .ok (.aload_n 3, 1) := by decide +kernel
theorem dX11_again_46 : decode cX11_again 46 = .ok (.ifnonnull 5, 3) := by decide +kernel
theorem dX11_again_49 : decode cX11_again 49 = .ok (.iconst 0, 1) := by decide +kernel
theorem dX11_again_50 : decode cX11_again 50 = .ok (.ireturn, 1) := by decide +kernel
theorem dX11_again_51 : decode cX11_again 51 = .ok (.aload_n 3, 1) := by decide +kernel
theorem dX11_again_52 : decode cX11_again 52 = .ok (.aload_n 2, 1) := by decide +kernel
theorem dX11_again_53 : decode cX11_again 53 = .ok (.getfield 133, 3) := by decide +kernel
theorem dX11_again_56 : decode cX11_again 56 = .ok (.aload_n 2, 1) := by decide +kernel
theorem dX11_again_57 : decode cX11_again 57 = .ok (.getfield 145, 3) := by decide +kernel
theorem dX11_again_60 : decode cX11_again 60 = .ok (.invokevirtual 147, 3) := by decide +kernel
theorem dX11_again_63 : decode cX11_again 63 = .ok (.iconst 1, 1) := by decide +kernel
theorem dX11_again_64 : decode cX11_again 64 = .ok (.ireturn, 1) := by decide +kernel
theorem dX11_put_0 : decode cX11_put 0 = .ok (.aload_n 0, 1) := by decide +kernel
theorem dX11_put_1 : decode cX11_put 1 = .ok (.getfield 29, 3) := by decide +kernel
theorem dX11_put_4 : decode cX11_put 4 = .ok (.bipush 64, 2) := by decide +kernel
theorem dX11_put_6 : decode cX11_put 6 = .ok (.if_icmp .ge 15, 3) := by decide +kernel
theorem dX11_put_9 : decode cX11_put 9 = .ok (.iload_n 1, 1) := by decide +kernel
theorem dX11_put_10 : decode cX11_put 10 = .ok (.i2l, 1) := by decide +kernel
theorem dX11_put_11 : decode cX11_put 11 = .ok (.lconst 0, 1) := by decide +kernel
theorem dX11_put_12 : decode cX11_put 12 = .ok (.ldc2_w 131, 3) := by decide +kernel
theorem dX11_put_15 : decode cX11_put 15 = .ok (.invokestatic 45, 3) := by decide +kernel
theorem dX11_put_18 : decode cX11_put 18 = .ok (.ifCond .ne 5, 3) := by decide +kernel
theorem dX11_put_21 : decode cX11_put 21 = .ok (.iconst (-1), 1) := by decide +kernel
theorem dX11_put_22 : decode cX11_put 22 = .ok (.ireturn, 1) := by decide +kernel
theorem dX11_put_23 : decode cX11_put 23 = .ok (.aload_n 0, 1) := by decide +kernel
theorem dX11_put_24 : decode cX11_put 24 = .ok (.getfield 25, 3) := by decide +kernel
theorem dX11_put_27 : decode cX11_put 27 = .ok (.aload_n 0, 1) := by decide +kernel
theorem dX11_put_28 : decode cX11_put 28 = .ok (.getfield 29, 3) := by decide +kernel
theorem dX11_put_31 : decode cX11_put 31 = .ok (.iload_n 1, 1) := by decide +kernel
theorem dX11_put_32 : decode cX11_put 32 = .ok (.iastore, 1) := by decide +kernel
theorem dX11_put_33 : decode cX11_put 33 = .ok (.aload_n 0, 1) := by decide +kernel
theorem dX11_put_34 : decode cX11_put 34 = .ok (.dup, 1) := by decide +kernel
theorem dX11_put_35 : decode cX11_put 35 = .ok (.getfield 29, 3) := by decide +kernel
theorem dX11_put_38 : decode cX11_put 38 = .ok (.iconst 1, 1) := by decide +kernel
theorem dX11_put_39 : decode cX11_put 39 = .ok (.iadd, 1) := by decide +kernel
theorem dX11_put_40 : decode cX11_put 40 = .ok (.putfield 29, 3) := by decide +kernel
theorem dX11_put_43 : decode cX11_put 43 = .ok (.aload_n 0, 1) := by decide +kernel
theorem dX11_put_44 : decode cX11_put 44 = .ok (.getfield 29, 3) := by decide +kernel
theorem dX11_put_47 : decode cX11_put 47 = .ok (.ireturn, 1) := by decide +kernel
theorem dX11_inject_0 : decode cX11_inject 0 = .ok (.aload_n 0, 1) := by decide +kernel
theorem dX11_inject_1 : decode cX11_inject 1 = .ok (.getfield 29, 3) := by decide +kernel
theorem dX11_inject_4 : decode cX11_inject 4 = .ok (.ifCond .eq 28, 3) := by decide +kernel
theorem dX11_inject_7 : decode cX11_inject 7 = .ok (.aload_n 0, 1) := by decide +kernel
theorem dX11_inject_8 : decode cX11_inject 8 = .ok (.getfield 10, 3) := by decide +kernel
theorem dX11_inject_11 : decode cX11_inject 11 = .ok (.iload_n 1, 1) := by decide +kernel
theorem dX11_inject_12 : decode cX11_inject 12 = .ok (.iload_n 2, 1) := by decide +kernel
theorem dX11_inject_13 : decode cX11_inject 13 = .ok (.invokevirtual 151, 3) := by decide +kernel
theorem dX11_inject_16 : decode cX11_inject 16 = .ok (.ifCond .eq 16, 3) := by decide +kernel
theorem dX11_inject_19 : decode cX11_inject 19 = .ok (.aload_n 0, 1) := by decide +kernel
theorem dX11_inject_20 : decode cX11_inject 20 = .ok (.getfield 10, 3) := by decide +kernel
theorem dX11_inject_23 : decode cX11_inject 23 = .ok (.iload_n 3, 1) := by decide +kernel
theorem dX11_inject_24 : decode cX11_inject 24 = .ok (.iload 4, 2) := by decide +kernel
theorem dX11_inject_26 : decode cX11_inject 26 = .ok (.invokevirtual 151, 3) := by decide +kernel
theorem dX11_inject_29 : decode cX11_inject 29 = .ok (.ifCond .ne 5, 3) := by decide +kernel
theorem dX11_inject_32 : decode cX11_inject 32 = .ok (.iconst 0, 1) := by decide +kernel
theorem dX11_inject_33 : decode cX11_inject 33 = .ok (.ireturn, 1) := by decide +kernel
theorem dX11_inject_34 : decode cX11_inject 34 = .ok (.aload_n 0, 1) := by decide +kernel
theorem dX11_inject_35 : decode cX11_inject 35 = .ok (.getfield 10, 3) := by decide +kernel
theorem dX11_inject_38 : decode cX11_inject 38 = .ok (.getfield 95, 3) := by decide +kernel
theorem dX11_inject_41 : decode cX11_inject 41 = .ok (.iload_n 1, 1) := by decide +kernel
theorem dX11_inject_42 : decode cX11_inject 42 = .ok (.iload_n 2, 1) := by decide +kernel
theorem dX11_inject_43 : decode cX11_inject 43 = .ok (.iload_n 3, 1) := by decide +kernel
theorem dX11_inject_44 : decode cX11_inject 44 = .ok (.iload 4, 2) := by decide +kernel
theorem dX11_inject_46 : decode cX11_inject 46 = .ok (.invokevirtual 142, 3) := by decide +kernel
theorem dX11_inject_49 : decode cX11_inject 49 = .ok (.astore 5, 2) := by decide +kernel
theorem dX11_inject_51 : decode cX11_inject 51 = .ok (.aload 5, 2) := by decide +kernel
theorem dX11_inject_53 : decode cX11_inject 53 = .ok (.ifnonnull 5, 3) := by decide +kernel
theorem dX11_inject_56 : decode cX11_inject 56 = .ok (.iconst 0, 1) := by decide +kernel
theorem dX11_inject_57 : decode cX11_inject 57 = .ok (.ireturn, 1) := by decide +kernel
theorem dX11_inject_58 : decode cX11_inject 58 = .ok (.aload 5, 2) := by decide +kernel
theorem dX11_inject_60 : decode cX11_inject 60 = .ok (.aload_n 0, 1) := by decide +kernel
theorem dX11_inject_61 : decode cX11_inject 61 = .ok (.getfield 25, 3) := by decide +kernel
theorem dX11_inject_64 : decode cX11_inject 64 = .ok (.aload_n 0, 1) := by decide +kernel
theorem dX11_inject_65 : decode cX11_inject 65 = .ok (.getfield 29, 3) := by decide +kernel
theorem dX11_inject_68 : decode cX11_inject 68 = .ok (.invokevirtual 147, 3) := by decide +kernel
theorem dX11_inject_71 : decode cX11_inject 71 = .ok (.aload_n 0, 1) := by decide +kernel
theorem dX11_inject_72 : decode cX11_inject 72 = .ok (.iconst 0, 1) := by decide +kernel
theorem dX11_inject_73 : decode cX11_inject 73 = .ok (.putfield 29, 3) := by decide +kernel
theorem dX11_inject_76 : decode cX11_inject 76 = .ok (.iconst 1, 1) := by decide +kernel
theorem dX11_inject_77 : decode cX11_inject 77 = .ok (.ireturn, 1) := by decide +kernel
theorem dX11_power_0 : decode cX11_power 0 = .ok (.aload_n 0, 1) := by decide +kernel
theorem dX11_power_1 : decode cX11_power 1 = .ok (.getfield 10, 3) := by decide +kernel
theorem dX11_power_4 : decode cX11_power 4 = .ok (.iload_n 1, 1) := by decide +kernel
theorem dX11_power_5 : decode cX11_power 5 = .ok (.invokevirtual 84, 3) := by decide +kernel
theorem dX11_power_8 : decode cX11_power 8 = .ok (.ifCond .eq 15, 3) := by decide +kernel
theorem dX11_power_11 : decode cX11_power 11 = .ok (.iload_n 2, 1) := by decide +kernel
theorem dX11_power_12 : decode cX11_power 12 = .ok (.i2l, 1) := by decide +kernel
theorem dX11_power_13 : decode cX11_power 13 = .ok (.lconst 0, 1) := by decide +kernel
theorem dX11_power_14 : decode cX11_power 14 = .ok (.ldc2_w 51, 3) := by decide +kernel
theorem dX11_power_17 : decode cX11_power 17 = .ok (.invokestatic 45, 3) := by decide +kernel
theorem dX11_power_20 : decode cX11_power 20 = .ok (.ifCond .ne 5, 3) := by decide +kernel
theorem dX11_power_23 : decode cX11_power 23 = .ok (.iconst 0, 1) := by decide +kernel
theorem dX11_power_24 : decode cX11_power 24 = .ok (.ireturn, 1) := by decide +kernel
theorem dX11_power_25 : decode cX11_power 25 = .ok (.aload_n 0, 1) := by decide +kernel
theorem dX11_power_26 : decode cX11_power 26 = .ok (.getfield 10, 3) := by decide +kernel
theorem dX11_power_29 : decode cX11_power 29 = .ok (.getfield 33, 3) := by decide +kernel
theorem dX11_power_32 : decode cX11_power 32 = .ok (.iload_n 1, 1) := by decide +kernel
theorem dX11_power_33 : decode cX11_power 33 = .ok (.invokevirtual 87, 3) := by decide +kernel
theorem dX11_power_36 : decode cX11_power 36 = .ok (.checkcast 55, 3) := by decide +kernel
theorem dX11_power_39 : decode cX11_power 39 = .ok (.iload_n 2, 1) := by decide +kernel
theorem dX11_power_40 : decode cX11_power 40 = .ok (.putfield 155, 3) := by decide +kernel
theorem dX11_power_43 : decode cX11_power 43 = .ok (.iconst 1, 1) := by decide +kernel
theorem dX11_power_44 : decode cX11_power 44 = .ok (.ireturn, 1) := by decide +kernel
theorem dX11_tick_0 : decode cX11_tick 0 = .ok (.iload_n 1, 1) := by decide +kernel
theorem dX11_tick_1 : decode cX11_tick 1 = .ok (.i2l, 1) := by decide +kernel
theorem dX11_tick_2 : decode cX11_tick 2 = .ok (.lconst 1, 1) := by decide +kernel
theorem dX11_tick_3 : decode cX11_tick 3 = .ok (.ldc2_w 158, 3) := by decide +kernel
theorem dX11_tick_6 : decode cX11_tick 6 = .ok (.invokestatic 45, 3) := by decide +kernel
theorem dX11_tick_9 : decode cX11_tick 9 = .ok (.ifCond .ne 5, 3) := by decide +kernel
theorem dX11_tick_12 : decode cX11_tick 12 = .ok (.iconst (-1), 1) := by decide +kernel
theorem dX11_tick_13 : decode cX11_tick 13 = .ok (.ireturn, 1) := by decide +kernel
theorem dX11_tick_14 : decode cX11_tick 14 = .ok (.iconst 0, 1) := by decide +kernel
theorem dX11_tick_15 : decode cX11_tick 15 = .ok (.istore_n 2, 1) := by decide +kernel
theorem dX11_tick_16 : decode cX11_tick 16 = .ok (.iconst 0, 1) := by decide +kernel
theorem dX11_tick_17 : decode cX11_tick 17 = .ok (.istore_n 3, 1) := by decide +kernel
theorem dX11_tick_18 : decode cX11_tick 18 = .ok (.iload_n 3, 1) := by decide +kernel
theorem dX11_tick_19 : decode cX11_tick 19 = .ok (.aload_n 0, 1) := by decide +kernel
theorem dX11_tick_20 : decode cX11_tick 20 = .ok (.getfield 10, 3) := by decide +kernel
theorem dX11_tick_23 : decode cX11_tick 23 = .ok (.getfield 72, 3) := by decide +kernel
theorem dX11_tick_26 : decode cX11_tick 26 = .ok (.invokevirtual 37, 3) := by decide +kernel
theorem dX11_tick_29 : decode cX11_tick 29 = .ok (.if_icmp .ge 33, 3) := by decide +kernel
theorem dX11_tick_32 : decode cX11_tick 32 = .ok (.aload_n 0, 1) := by decide +kernel
theorem dX11_tick_33 : decode cX11_tick 33 = .ok (.getfield 10, 3) := by decide +kernel
theorem dX11_tick_36 : decode cX11_tick 36 = .ok (.getfield 72, 3) := by decide +kernel
theorem dX11_tick_39 : decode cX11_tick 39 = .ok (.iload_n 3, 1) := by decide +kernel
theorem dX11_tick_40 : decode cX11_tick 40 = .ok (.invokevirtual 87, 3) := by decide +kernel
theorem dX11_tick_43 : decode cX11_tick 43 = .ok (.checkcast 75, 3) := by decide +kernel
theorem dX11_tick_46 : decode cX11_tick 46 = .ok (.iload_n 1, 1) := by decide +kernel
theorem dX11_tick_47 : decode cX11_tick 47 = .ok (.invokevirtual 160, 3) := by decide +kernel
theorem dX11_tick_50 : decode cX11_tick 50 = .ok (.ifCond .eq 6, 3) := by decide +kernel
theorem dX11_tick_53 : decode cX11_tick 53 = .ok (.iinc 2 1, 3) := by decide +kernel
theorem dX11_tick_56 : decode cX11_tick 56 = .ok (.iinc 3 1, 3) := by decide +kernel
theorem dX11_tick_59 : decode cX11_tick 59 = .ok (.goto (-41), 3) := by decide +kernel
theorem dX11_tick_62 : decode cX11_tick 62 = .ok (.iload_n 2, 1) := by decide +kernel
theorem dX11_tick_63 : decode cX11_tick 63 = .ok (.ireturn, 1) := by decide +kernel
theorem dX11_clear_0 : decode cX11_clear 0 = .ok (.aload_n 0, 1) := by decide +kernel
theorem dX11_clear_1 : decode cX11_clear 1 = .ok (.getfield 10, 3) := by decide +kernel
theorem dX11_clear_4 : decode cX11_clear 4 = .ok (.iload_n 1, 1) := by decide +kernel
theorem dX11_clear_5 : decode cX11_clear 5 = .ok (.invokevirtual 80, 3) := by decide +kernel
theorem dX11_clear_8 : decode cX11_clear 8 = .ok (.ifCond .eq 23, 3) := by decide +kernel
theorem dX11_clear_11 : decode cX11_clear 11 = .ok (.aload_n 0, 1) := by decide +kernel
theorem dX11_clear_12 : decode cX11_clear 12 = .ok (.getfield 10, 3) := by decide +kernel
theorem dX11_clear_15 : decode cX11_clear 15 = .ok (.getfield 72, 3) := by decide +kernel
theorem dX11_clear_18 : decode cX11_clear 18 = .ok (.iload_n 1, 1) := by decide +kernel
theorem dX11_clear_19 : decode cX11_clear 19 = .ok (.invokevirtual 87, 3) := by decide +kernel
theorem dX11_clear_22 : decode cX11_clear 22 = .ok (.checkcast 75, 3) := by decide +kernel
theorem dX11_clear_25 : decode cX11_clear 25 = .ok (.invokevirtual 163, 3) := by decide +kernel
theorem dX11_clear_28 : decode cX11_clear 28 = .ok (.goto 4, 3) := by decide +kernel
theorem dX11_clear_31 : decode cX11_clear 31 = .ok (.iconst (-1), 1) := by decide +kernel
theorem dX11_clear_32 : decode cX11_clear 32 = .ok (.ireturn, 1) := by decide +kernel
theorem dX11_count_0 : decode cX11_count 0 = .ok (.iload_n 1, 1) := by decide +kernel
theorem dX11_count_1 : decode cX11_count 1 = .ok (.tableswitch 108 0 5 #[39, 50, 61, 72, 83, 97], 39) := by decide +kernel
theorem dX11_count_40 : decode cX11_count 40 = .ok (.aload_n 0, 1) := by decide +kernel
theorem dX11_count_41 : decode cX11_count 41 = .ok (.getfield 10, 3) := by decide +kernel
theorem dX11_count_44 : decode cX11_count 44 = .ok (.getfield 33, 3) := by decide +kernel
theorem dX11_count_47 : decode cX11_count 47 = .ok (.invokevirtual 37, 3) := by decide +kernel
theorem dX11_count_50 : decode cX11_count 50 = .ok (.ireturn, 1) := by decide +kernel
theorem dX11_count_51 : decode cX11_count 51 = .ok (.aload_n 0, 1) := by decide +kernel
theorem dX11_count_52 : decode cX11_count 52 = .ok (.getfield 10, 3) := by decide +kernel
theorem dX11_count_55 : decode cX11_count 55 = .ok (.getfield 72, 3) := by decide +kernel
theorem dX11_count_58 : decode cX11_count 58 = .ok (.invokevirtual 37, 3) := by decide +kernel
theorem dX11_count_61 : decode cX11_count 61 = .ok (.ireturn, 1) := by decide +kernel
theorem dX11_count_62 : decode cX11_count 62 = .ok (.aload_n 0, 1) := by decide +kernel
theorem dX11_count_63 : decode cX11_count 63 = .ok (.getfield 10, 3) := by decide +kernel
theorem dX11_count_66 : decode cX11_count 66 = .ok (.getfield 95, 3) := by decide +kernel
theorem dX11_count_69 : decode cX11_count 69 = .ok (.getfield 166, 3) := by decide +kernel
theorem dX11_count_72 : decode cX11_count 72 = .ok (.ireturn, 1) := by decide +kernel
theorem dX11_count_73 : decode cX11_count 73 = .ok (.aload_n 0, 1) := by decide +kernel
theorem dX11_count_74 : decode cX11_count 74 = .ok (.getfield 21, 3) := by decide +kernel
theorem dX11_count_77 : decode cX11_count 77 = .ok (.getfield 167, 3) := by decide +kernel
theorem dX11_count_80 : decode cX11_count 80 = .ok (.invokevirtual 37, 3) := by decide +kernel
theorem dX11_count_83 : decode cX11_count 83 = .ok (.ireturn, 1) := by decide +kernel
theorem dX11_count_84 : decode cX11_count 84 = .ok (.aload_n 0, 1) := by decide +kernel
theorem dX11_count_85 : decode cX11_count 85 = .ok (.getfield 10, 3) := by decide +kernel
theorem dX11_count_88 : decode cX11_count 88 = .ok (.getfield 170, 3) := by decide +kernel
theorem dX11_count_91 : decode cX11_count 91 = .ok (.getfield 174, 3) := by decide +kernel
theorem dX11_count_94 : decode cX11_count 94 = .ok (.invokevirtual 37, 3) := by decide +kernel
theorem dX11_count_97 : decode cX11_count 97 = .ok (.ireturn, 1) := by decide +kernel
theorem dX11_count_98 : decode cX11_count 98 = .ok (.aload_n 0, 1) := by decide +kernel
theorem dX11_count_99 : decode cX11_count 99 = .ok (.getfield 10, 3) := by decide +kernel
theorem dX11_count_102 : decode cX11_count 102 = .ok (.getfield 179, 3) := by decide +kernel
theorem dX11_count_105 : decode cX11_count 105 = .ok (.invokevirtual 37, 3) := by decide +kernel
theorem dX11_count_108 : decode cX11_count 108 = .ok (.ireturn, 1) := by decide +kernel
theorem dX11_count_109 : decode cX11_count 109 = .ok (.iconst (-1), 1) := by decide +kernel
theorem dX11_count_110 : decode cX11_count 110 = .ok (.ireturn, 1) := by decide +kernel
theorem dX11_outcome_0 : decode cX11_outcome 0 = .ok (.aload_n 0, 1) := by decide +kernel
theorem dX11_outcome_1 : decode cX11_outcome 1 = .ok (.getfield 10, 3) := by decide +kernel
theorem dX11_outcome_4 : decode cX11_outcome 4 = .ok (.iload_n 1, 1) := by decide +kernel
theorem dX11_outcome_5 : decode cX11_outcome 5 = .ok (.invokevirtual 80, 3) := by decide +kernel
theorem dX11_outcome_8 : decode cX11_outcome 8 = .ok (.ifCond .eq 23, 3) := by decide +kernel
theorem dX11_outcome_11 : decode cX11_outcome 11 = .ok (.aload_n 0, 1) := by decide +kernel
theorem dX11_outcome_12 : decode cX11_outcome 12 = .ok (.getfield 10, 3) := by decide +kernel
theorem dX11_outcome_15 : decode cX11_outcome 15 = .ok (.getfield 72, 3) := by decide +kernel
theorem dX11_outcome_18 : decode cX11_outcome 18 = .ok (.iload_n 1, 1) := by decide +kernel
theorem dX11_outcome_19 : decode cX11_outcome 19 = .ok (.invokevirtual 87, 3) := by decide +kernel
theorem dX11_outcome_22 : decode cX11_outcome 22 = .ok (.checkcast 75, 3) := by decide +kernel
theorem dX11_outcome_25 : decode cX11_outcome 25 = .ok (.getfield 182, 3) := by decide +kernel
theorem dX11_outcome_28 : decode cX11_outcome 28 = .ok (.goto 4, 3) := by decide +kernel
theorem dX11_outcome_31 : decode cX11_outcome 31 = .ok (.iconst (-1), 1) := by decide +kernel
theorem dX11_outcome_32 : decode cX11_outcome 32 = .ok (.ireturn, 1) := by decide +kernel
theorem dX11_told_0 : decode cX11_told 0 = .ok (.aload_n 0, 1) := by decide +kernel
theorem dX11_told_1 : decode cX11_told 1 = .ok (.getfield 10, 3) := by decide +kernel
theorem dX11_told_4 : decode cX11_told 4 = .ok (.iload_n 1, 1) := by decide +kernel
theorem dX11_told_5 : decode cX11_told 5 = .ok (.invokevirtual 84, 3) := by decide +kernel
theorem dX11_told_8 : decode cX11_told 8 = .ok (.ifCond .ne 5, 3) := by decide +kernel
theorem dX11_told_11 : decode cX11_told 11 = .ok (.iconst (-1), 1) := by decide +kernel
theorem dX11_told_12 : decode cX11_told 12 = .ok (.ireturn, 1) := by decide +kernel
theorem dX11_told_13 : decode cX11_told 13 = .ok (.aload_n 0, 1) := by decide +kernel
theorem dX11_told_14 : decode cX11_told 14 = .ok (.getfield 10, 3) := by decide +kernel
theorem dX11_told_17 : decode cX11_told 17 = .ok (.getfield 33, 3) := by decide +kernel
theorem dX11_told_20 : decode cX11_told 20 = .ok (.iload_n 1, 1) := by decide +kernel
theorem dX11_told_21 : decode cX11_told 21 = .ok (.invokevirtual 87, 3) := by decide +kernel
theorem dX11_told_24 : decode cX11_told 24 = .ok (.checkcast 55, 3) := by decide +kernel
theorem dX11_told_27 : decode cX11_told 27 = .ok (.astore_n 3, 1) := by decide +kernel
theorem dX11_told_28 : decode cX11_told 28 = .ok (.iload_n 2, 1) := by decide +kernel
theorem dX11_told_29 : decode cX11_told 29 = .ok (.tableswitch 51 0 3 #[31, 36, 41, 46], 31) := by decide +kernel
theorem dX11_told_60 : decode cX11_told 60 = .ok (.aload_n 3, 1) := by decide +kernel
theorem dX11_told_61 : decode cX11_told 61 = .ok (.getfield 185, 3) := by decide +kernel
theorem dX11_told_64 : decode cX11_told 64 = .ok (.ireturn, 1) := by decide +kernel
theorem dX11_told_65 : decode cX11_told 65 = .ok (.aload_n 3, 1) := by decide +kernel
theorem dX11_told_66 : decode cX11_told 66 = .ok (.getfield 188, 3) := by decide +kernel
theorem dX11_told_69 : decode cX11_told 69 = .ok (.ireturn, 1) := by decide +kernel
theorem dX11_told_70 : decode cX11_told 70 = .ok (.aload_n 3, 1) := by decide +kernel
theorem dX11_told_71 : decode cX11_told 71 = .ok (.getfield 191, 3) := by decide +kernel
theorem dX11_told_74 : decode cX11_told 74 = .ok (.ireturn, 1) := by decide +kernel
theorem dX11_told_75 : decode cX11_told 75 = .ok (.aload_n 3, 1) := by decide +kernel
theorem dX11_told_76 : decode cX11_told 76 = .ok (.getfield 194, 3) := by decide +kernel
theorem dX11_told_79 : decode cX11_told 79 = .ok (.ireturn, 1) := by decide +kernel
theorem dX11_told_80 : decode cX11_told 80 = .ok (.iconst (-1), 1) := by decide +kernel
theorem dX11_told_81 : decode cX11_told 81 = .ok (.ireturn, 1) := by decide +kernel
theorem dX11_account_0 : decode cX11_account 0 = .ok (.iload_n 1, 1) := by decide +kernel
theorem dX11_account_1 : decode cX11_account 1 = .ok (.ifCond .lt 37, 3) := by decide +kernel
theorem dX11_account_4 : decode cX11_account 4 = .ok (.iload_n 1, 1) := by decide +kernel
theorem dX11_account_5 : decode cX11_account 5 = .ok (.aload_n 0, 1) := by decide +kernel
theorem dX11_account_6 : decode cX11_account 6 = .ok (.getfield 21, 3) := by decide +kernel
theorem dX11_account_9 : decode cX11_account 9 = .ok (.getfield 64, 3) := by decide +kernel
theorem dX11_account_12 : decode cX11_account 12 = .ok (.invokevirtual 37, 3) := by decide +kernel
theorem dX11_account_15 : decode cX11_account 15 = .ok (.if_icmp .ge 23, 3) := by decide +kernel
theorem dX11_account_18 : decode cX11_account 18 = .ok (.aload_n 0, 1) := by decide +kernel
theorem dX11_account_19 : decode cX11_account 19 = .ok (.getfield 21, 3) := by decide +kernel
theorem dX11_account_22 : decode cX11_account 22 = .ok (.getfield 64, 3) := by decide +kernel
theorem dX11_account_25 : decode cX11_account 25 = .ok (.iload_n 1, 1) := by decide +kernel
theorem dX11_account_26 : decode cX11_account 26 = .ok (.invokevirtual 87, 3) := by decide +kernel
theorem dX11_account_29 : decode cX11_account 29 = .ok (.checkcast 67, 3) := by decide +kernel
theorem dX11_account_32 : decode cX11_account 32 = .ok (.getfield 197, 3) := by decide +kernel
theorem dX11_account_35 : decode cX11_account 35 = .ok (.goto 4, 3) := by decide +kernel
theorem dX11_account_38 : decode cX11_account 38 = .ok (.lconst 0, 1) := by decide +kernel
theorem dX11_account_39 : decode cX11_account 39 = .ok (.lreturn, 1) := by decide +kernel
theorem dX11_debit_0 : decode cX11_debit 0 = .ok (.iload_n 1, 1) := by decide +kernel
theorem dX11_debit_1 : decode cX11_debit 1 = .ok (.ifCond .lt 17, 3) := by decide +kernel
theorem dX11_debit_4 : decode cX11_debit 4 = .ok (.iload_n 1, 1) := by decide +kernel
theorem dX11_debit_5 : decode cX11_debit 5 = .ok (.aload_n 0, 1) := by decide +kernel
theorem dX11_debit_6 : decode cX11_debit 6 = .ok (.getfield 21, 3) := by decide +kernel
theorem dX11_debit_9 : decode cX11_debit 9 = .ok (.getfield 167, 3) := by decide +kernel
theorem dX11_debit_12 : decode cX11_debit 12 = .ok (.invokevirtual 37, 3) := by decide +kernel
theorem dX11_debit_15 : decode cX11_debit 15 = .ok (.if_icmp .lt 7, 3) := by decide +kernel
theorem dX11_debit_18 : decode cX11_debit 18 = .ok (.ldc2_w 201, 3) := by decide +kernel
theorem dX11_debit_21 : decode cX11_debit 21 = .ok (.lreturn, 1) := by decide +kernel
theorem dX11_debit_22 : decode cX11_debit 22 = .ok (.aload_n 0, 1) := by decide +kernel
theorem dX11_debit_23 : decode cX11_debit 23 = .ok (.getfield 21, 3) := by decide +kernel
theorem dX11_debit_26 : decode cX11_debit 26 = .ok (.getfield 167, 3) := by decide +kernel
theorem dX11_debit_29 : decode cX11_debit 29 = .ok (.iload_n 1, 1) := by decide +kernel
theorem dX11_debit_30 : decode cX11_debit 30 = .ok (.invokevirtual 87, 3) := by decide +kernel
theorem dX11_debit_33 : decode cX11_debit 33 = .ok (.checkcast 203, 3) := by decide +kernel
theorem dX11_debit_36 : decode cX11_debit 36 = .ok (.astore_n 3, 1) := by decide +kernel
theorem dX11_debit_37 : decode cX11_debit 37 = .ok (.iload_n 2, 1) := by decide +kernel
theorem dX11_debit_38 : decode cX11_debit 38 = .ok (.tableswitch 82 0 6 #[42, 48, 54, 59, 64, 70, 76], 42) := by decide +kernel
theorem dX11_debit_80 : decode cX11_debit 80 = .ok (.aload_n 3, 1) := by decide +kernel
theorem dX11_debit_81 : decode cX11_debit 81 = .ok (.getfield 205, 3) := by decide +kernel
theorem dX11_debit_84 : decode cX11_debit 84 = .ok (.i2l, 1) := by decide +kernel
theorem dX11_debit_85 : decode cX11_debit 85 = .ok (.lreturn, 1) := by decide +kernel
theorem dX11_debit_86 : decode cX11_debit 86 = .ok (.aload_n 3, 1) := by decide +kernel
theorem dX11_debit_87 : decode cX11_debit 87 = .ok (.getfield 208, 3) := by decide +kernel
theorem dX11_debit_90 : decode cX11_debit 90 = .ok (.i2l, 1) := by decide +kernel
theorem dX11_debit_91 : decode cX11_debit 91 = .ok (.lreturn, 1) := by decide +kernel
theorem dX11_debit_92 : decode cX11_debit 92 = .ok (.aload_n 3, 1) := by decide +kernel
theorem dX11_debit_93 : decode cX11_debit 93 = .ok (.getfield 209, 3) := by decide +kernel
theorem dX11_debit_96 : decode cX11_debit 96 = .ok (.lreturn, 1) := by decide +kernel
theorem dX11_debit_97 : decode cX11_debit 97 = .ok (.aload_n 3, 1) := by decide +kernel
theorem dX11_debit_98 : decode cX11_debit 98 = .ok (.getfield 212, 3) := by decide +kernel
theorem dX11_debit_101 : decode cX11_debit 101 = .ok (.lreturn, 1) := by decide +kernel
theorem dX11_debit_102 : decode cX11_debit 102 = .ok (.aload_n 3, 1) := by decide +kernel
theorem dX11_debit_103 : decode cX11_debit 103 = .ok (.getfield 215, 3) := by decide +kernel
theorem dX11_debit_106 : decode cX11_debit 106 = .ok (.i2l, 1) := by decide +kernel
theorem dX11_debit_107 : decode cX11_debit 107 = .ok (.lreturn, 1) := by decide +kernel
theorem dX11_debit_108 : decode cX11_debit 108 = .ok (.aload_n 3, 1) := by decide +kernel
theorem dX11_debit_109 : decode cX11_debit 109 = .ok (.getfield 218, 3) := by decide +kernel
theorem dX11_debit_112 : decode cX11_debit 112 = .ok (.i2l, 1) := by decide +kernel
theorem dX11_debit_113 : decode cX11_debit 113 = .ok (.lreturn, 1) := by decide +kernel
theorem dX11_debit_114 : decode cX11_debit 114 = .ok (.aload_n 3, 1) := by decide +kernel
theorem dX11_debit_115 : decode cX11_debit 115 = .ok (.getfield 221, 3) := by decide +kernel
theorem dX11_debit_118 : decode cX11_debit 118 = .ok (.i2l, 1) := by decide +kernel
theorem dX11_debit_119 : decode cX11_debit 119 = .ok (.lreturn, 1) := by decide +kernel
theorem dX11_debit_120 : decode cX11_debit 120 = .ok (.ldc2_w 201, 3) := by decide +kernel
theorem dX11_debit_123 : decode cX11_debit 123 = .ok (.lreturn, 1) := by decide +kernel
theorem dX11_message_0 : decode cX11_message 0 = .ok (.aload_n 0, 1) := by decide +kernel
theorem dX11_message_1 : decode cX11_message 1 = .ok (.getfield 10, 3) := by decide +kernel
theorem dX11_message_4 : decode cX11_message 4 = .ok (.getfield 95, 3) := by decide +kernel
theorem dX11_message_7 : decode cX11_message 7 = .ok (.iload_n 1, 1) := by decide +kernel
theorem dX11_message_8 : decode cX11_message 8 = .ok (.invokevirtual 126, 3) := by decide +kernel
theorem dX11_message_11 : decode cX11_message 11 = .ok (.astore_n 3, 1) := by decide +kernel
theorem dX11_message_12 : decode cX11_message 12 = .ok (.aload_n 3, 1) := by decide +kernel
theorem dX11_message_13 : decode cX11_message 13 = .ok (.ifnonnull 5, 3) := by decide +kernel
theorem dX11_message_16 : decode cX11_message 16 = .ok (.iconst (-1), 1) := by decide +kernel
theorem dX11_message_17 : decode cX11_message 17 = .ok (.ireturn, 1) := by decide +kernel
theorem dX11_message_18 : decode cX11_message 18 = .ok (.iload_n 2, 1) := by decide +kernel
theorem dX11_message_19 : decode cX11_message 19 = .ok (.tableswitch 58 0 4 #[33, 38, 43, 48, 53], 33) := by decide +kernel
theorem dX11_message_52 : decode cX11_message 52 = .ok (.aload_n 3, 1) := by decide +kernel
theorem dX11_message_53 : decode cX11_message 53 = .ok (.getfield 136, 3) := by decide +kernel
theorem dX11_message_56 : decode cX11_message 56 = .ok (.ireturn, 1) := by decide +kernel
theorem dX11_message_57 : decode cX11_message 57 = .ok (.aload_n 3, 1) := by decide +kernel
theorem dX11_message_58 : decode cX11_message 58 = .ok (.getfield 139, 3) := by decide +kernel
theorem dX11_message_61 : decode cX11_message 61 = .ok (.ireturn, 1) := by decide +kernel
theorem dX11_message_62 : decode cX11_message 62 = .ok (.aload_n 3, 1) := by decide +kernel
theorem dX11_message_63 : decode cX11_message 63 = .ok (.getfield 115, 3) := by decide +kernel
theorem dX11_message_66 : decode cX11_message 66 = .ok (.ireturn, 1) := by decide +kernel
theorem dX11_message_67 : decode cX11_message 67 = .ok (.aload_n 3, 1) := by decide +kernel
theorem dX11_message_68 : decode cX11_message 68 = .ok (.getfield 121, 3) := by decide +kernel
theorem dX11_message_71 : decode cX11_message 71 = .ok (.ireturn, 1) := by decide +kernel
theorem dX11_message_72 : decode cX11_message 72 = .ok (.aload_n 3, 1) := by decide +kernel
theorem dX11_message_73 : decode cX11_message 73 = .ok (.getfield 145, 3) := by decide +kernel
theorem dX11_message_76 : decode cX11_message 76 = .ok (.ireturn, 1) := by decide +kernel
theorem dX11_message_77 : decode cX11_message 77 = .ok (.iconst (-1), 1) := by decide +kernel
theorem dX11_message_78 : decode cX11_message 78 = .ok (.ireturn, 1) := by decide +kernel
end
section
theorem dX11_at_0 : decode cX11_at 0 = .ok (.aload_n 0, 1) := by decide +kernel
theorem dX11_at_1 : decode cX11_at 1 = .ok (.getfield 10, 3) := by decide +kernel
theorem dX11_at_4 : decode cX11_at 4 = .ok (.getfield 95, 3) := by decide +kernel
theorem dX11_at_7 : decode cX11_at 7 = .ok (.iload_n 1, 1) := by decide +kernel
theorem dX11_at_8 : decode cX11_at 8 = .ok (.invokevirtual 126, 3) := by decide +kernel
theorem dX11_at_11 : decode cX11_at 11 = .ok (.astore_n 3, 1) := by decide +kernel
theorem dX11_at_12 : decode cX11_at 12 = .ok (.aload_n 3, 1) := by decide +kernel
theorem dX11_at_13 : decode cX11_at 13 = .ok (.ifnull 20, 3) := by decide +kernel
theorem dX11_at_16 : decode cX11_at 16 = .ok (.aload_n 3, 1) := by decide +kernel
theorem dX11_at_17 : decode cX11_at 17 = .ok (.iload_n 2, 1) := by decide +kernel
theorem dX11_at_18 : decode cX11_at 18 = .ok (.invokevirtual 128, 3) := by decide +kernel
theorem dX11_at_21 : decode cX11_at 21 = .ok (.ifCond .eq 12, 3) := by decide +kernel
theorem dX11_at_24 : decode cX11_at 24 = .ok (.aload_n 3, 1) := by decide +kernel
theorem dX11_at_25 : decode cX11_at 25 = .ok (.getfield 133, 3) := by decide +kernel
theorem dX11_at_28 : decode cX11_at 28 = .ok (.iload_n 2, 1) := by decide +kernel
theorem dX11_at_29 : decode cX11_at 29 = .ok (.iaload, 1) := by decide +kernel
theorem dX11_at_30 : decode cX11_at 30 = .ok (.goto 4, 3) := by decide +kernel
theorem dX11_at_33 : decode cX11_at 33 = .ok (.iconst (-1), 1) := by decide +kernel
theorem dX11_at_34 : decode cX11_at 34 = .ok (.ireturn, 1) := by decide +kernel
theorem dX11_matched_0 : decode cX11_matched 0 = .ok (.iconst 0, 1) := by decide +kernel
theorem dX11_matched_1 : decode cX11_matched 1 = .ok (.istore_n 1, 1) := by decide +kernel
theorem dX11_matched_2 : decode cX11_matched 2 = .ok (.iload_n 1, 1) := by decide +kernel
theorem dX11_matched_3 : decode cX11_matched 3 = .ok (.aload_n 0, 1) := by decide +kernel
theorem dX11_matched_4 : decode cX11_matched 4 = .ok (.getfield 21, 3) := by decide +kernel
theorem dX11_matched_7 : decode cX11_matched 7 = .ok (.getfield 167, 3) := by decide +kernel
theorem dX11_matched_10 : decode cX11_matched 10 = .ok (.invokevirtual 37, 3) := by decide +kernel
theorem dX11_matched_13 : decode cX11_matched 13 = .ok (.if_icmp .ge 61, 3) := by decide +kernel
theorem dX11_matched_16 : decode cX11_matched 16 = .ok (.aload_n 0, 1) := by decide +kernel
theorem dX11_matched_17 : decode cX11_matched 17 = .ok (.getfield 21, 3) := by decide +kernel
theorem dX11_matched_20 : decode cX11_matched 20 = .ok (.getfield 167, 3) := by decide +kernel
theorem dX11_matched_23 : decode cX11_matched 23 = .ok (.iload_n 1, 1) := by decide +kernel
theorem dX11_matched_24 : decode cX11_matched 24 = .ok (.invokevirtual 87, 3) := by decide +kernel
theorem dX11_matched_27 : decode cX11_matched 27 = .ok (.checkcast 203, 3) := by decide +kernel
theorem dX11_matched_30 : decode cX11_matched 30 = .ok (.astore_n 2, 1) := by decide +kernel
theorem dX11_matched_31 : decode cX11_matched 31 = .ok (.aload_n 0, 1) := by decide +kernel
theorem dX11_matched_32 : decode cX11_matched 32 = .ok (.getfield 10, 3) := by decide +kernel
theorem dX11_matched_35 : decode cX11_matched 35 = .ok (.aload_n 2, 1) := by decide +kernel
theorem dX11_matched_36 : decode cX11_matched 36 = .ok (.invokevirtual 224, 3) := by decide +kernel
theorem dX11_matched_39 : decode cX11_matched 39 = .ok (.iconst 1, 1) := by decide +kernel
theorem dX11_matched_40 : decode cX11_matched 40 = .ok (.if_icmp .ne 26, 3) := by decide +kernel
theorem dX11_matched_43 : decode cX11_matched 43 = .ok (.aload_n 0, 1) := by decide +kernel
theorem dX11_matched_44 : decode cX11_matched 44 = .ok (.getfield 10, 3) := by decide +kernel
theorem dX11_matched_47 : decode cX11_matched 47 = .ok (.aload_n 2, 1) := by decide +kernel
theorem dX11_matched_48 : decode cX11_matched 48 = .ok (.invokevirtual 228, 3) := by decide +kernel
theorem dX11_matched_51 : decode cX11_matched 51 = .ok (.ifCond .eq 15, 3) := by decide +kernel
theorem dX11_matched_54 : decode cX11_matched 54 = .ok (.aload_n 0, 1) := by decide +kernel
theorem dX11_matched_55 : decode cX11_matched 55 = .ok (.getfield 21, 3) := by decide +kernel
theorem dX11_matched_58 : decode cX11_matched 58 = .ok (.aload_n 2, 1) := by decide +kernel
theorem dX11_matched_59 : decode cX11_matched 59 = .ok (.invokevirtual 232, 3) := by decide +kernel
theorem dX11_matched_62 : decode cX11_matched 62 = .ok (.iconst 1, 1) := by decide +kernel
theorem dX11_matched_63 : decode cX11_matched 63 = .ok (.if_icmp .eq 5, 3) := by decide +kernel
theorem dX11_matched_66 : decode cX11_matched 66 = .ok (.iconst 0, 1) := by decide +kernel
theorem dX11_matched_67 : decode cX11_matched 67 = .ok (.ireturn, 1) := by decide +kernel
theorem dX11_matched_68 : decode cX11_matched 68 = .ok (.iinc 1 1, 3) := by decide +kernel
theorem dX11_matched_71 : decode cX11_matched 71 = .ok (.goto (-69), 3) := by decide +kernel
theorem dX11_matched_74 : decode cX11_matched 74 = .ok (.iconst 1, 1) := by decide +kernel
theorem dX11_matched_75 : decode cX11_matched 75 = .ok (.ireturn, 1) := by decide +kernel
theorem dX11_isWithin_0 : decode cX11_isWithin 0 = .ok (.lload_n 0, 1) := by decide +kernel
theorem dX11_isWithin_1 : decode cX11_isWithin 1 = .ok (.lload_n 2, 1) := by decide +kernel
theorem dX11_isWithin_2 : decode cX11_isWithin 2 = .ok (.lcmp, 1) := by decide +kernel
theorem dX11_isWithin_3 : decode cX11_isWithin 3 = .ok (.ifCond .lt 14, 3) := by decide +kernel
theorem dX11_isWithin_6 : decode cX11_isWithin 6 = .ok (.lload_n 0, 1) := by decide +kernel
theorem dX11_isWithin_7 : decode cX11_isWithin 7 = .ok (.lload 4, 2) := by decide +kernel
theorem dX11_isWithin_9 : decode cX11_isWithin 9 = .ok (.lcmp, 1) := by decide +kernel
theorem dX11_isWithin_10 : decode cX11_isWithin 10 = .ok (.ifCond .gt 7, 3) := by decide +kernel
theorem dX11_isWithin_13 : decode cX11_isWithin 13 = .ok (.iconst 1, 1) := by decide +kernel
theorem dX11_isWithin_14 : decode cX11_isWithin 14 = .ok (.goto 4, 3) := by decide +kernel
theorem dX11_isWithin_17 : decode cX11_isWithin 17 = .ok (.iconst 0, 1) := by decide +kernel
theorem dX11_isWithin_18 : decode cX11_isWithin 18 = .ok (.ireturn, 1) := by decide +kernel
theorem dX12_init_0 : decode cX12_init 0 = .ok (.aload_n 0, 1) := by decide +kernel
theorem dX12_init_1 : decode cX12_init 1 = .ok (.invokespecial 1, 3) := by decide +kernel
theorem dX12_init_4 : decode cX12_init 4 = .ok (.aload_n 0, 1) := by decide +kernel
theorem dX12_init_5 : decode cX12_init 5 = .ok (.sipush 4096, 3) := by decide +kernel
theorem dX12_init_8 : decode cX12_init 8 = .ok (.newarray .int, 2) := by decide +kernel
theorem dX12_init_10 : decode cX12_init 10 = .ok (.putfield 7, 3) := by decide +kernel
theorem dX12_init_13 : decode cX12_init 13 = .ok (.aload_n 0, 1) := by decide +kernel
theorem dX12_init_14 : decode cX12_init 14 = .ok (.sipush 4096, 3) := by decide +kernel
theorem dX12_init_17 : decode cX12_init 17 = .ok (.newarray .int, 2) := by decide +kernel
theorem dX12_init_19 : decode cX12_init 19 = .ok (.putfield 13, 3) := by decide +kernel
theorem dX12_init_22 : decode cX12_init 22 = .ok (.aload_n 0, 1) := by decide +kernel
theorem dX12_init_23 : decode cX12_init 23 = .ok (.ldc 16, 2) := by decide +kernel
theorem dX12_init_25 : decode cX12_init 25 = .ok (.newarray .long, 2) := by decide +kernel
theorem dX12_init_27 : decode cX12_init 27 = .ok (.putfield 17, 3) := by decide +kernel
theorem dX12_init_30 : decode cX12_init 30 = .ok (.aload_n 0, 1) := by decide +kernel
theorem dX12_init_31 : decode cX12_init 31 = .ok (.bipush 12, 2) := by decide +kernel
theorem dX12_init_33 : decode cX12_init 33 = .ok (.newarray .long, 2) := by decide +kernel
theorem dX12_init_35 : decode cX12_init 35 = .ok (.putfield 21, 3) := by decide +kernel
theorem dX12_init_38 : decode cX12_init 38 = .ok (.aload_n 0, 1) := by decide +kernel
theorem dX12_init_39 : decode cX12_init 39 = .ok (.bipush 60, 2) := by decide +kernel
theorem dX12_init_41 : decode cX12_init 41 = .ok (.newarray .int, 2) := by decide +kernel
theorem dX12_init_43 : decode cX12_init 43 = .ok (.putfield 24, 3) := by decide +kernel
theorem dX12_init_46 : decode cX12_init 46 = .ok (.aload_n 0, 1) := by decide +kernel
theorem dX12_init_47 : decode cX12_init 47 = .ok (.bipush 60, 2) := by decide +kernel
theorem dX12_init_49 : decode cX12_init 49 = .ok (.newarray .int, 2) := by decide +kernel
theorem dX12_init_51 : decode cX12_init 51 = .ok (.putfield 27, 3) := by decide +kernel
theorem dX12_init_54 : decode cX12_init 54 = .ok (.aload_n 0, 1) := by decide +kernel
theorem dX12_init_55 : decode cX12_init 55 = .ok (.bipush 60, 2) := by decide +kernel
theorem dX12_init_57 : decode cX12_init 57 = .ok (.newarray .int, 2) := by decide +kernel
theorem dX12_init_59 : decode cX12_init 59 = .ok (.putfield 30, 3) := by decide +kernel
theorem dX12_init_62 : decode cX12_init 62 = .ok (.aload_n 0, 1) := by decide +kernel
theorem dX12_init_63 : decode cX12_init 63 = .ok (.bipush 60, 2) := by decide +kernel
theorem dX12_init_65 : decode cX12_init 65 = .ok (.newarray .int, 2) := by decide +kernel
theorem dX12_init_67 : decode cX12_init 67 = .ok (.putfield 33, 3) := by decide +kernel
theorem dX12_init_70 : decode cX12_init 70 = .ok (.aload_n 0, 1) := by decide +kernel
theorem dX12_init_71 : decode cX12_init 71 = .ok (.bipush 60, 2) := by decide +kernel
theorem dX12_init_73 : decode cX12_init 73 = .ok (.newarray .int, 2) := by decide +kernel
theorem dX12_init_75 : decode cX12_init 75 = .ok (.putfield 36, 3) := by decide +kernel
theorem dX12_init_78 : decode cX12_init 78 = .ok (.aload_n 0, 1) := by decide +kernel
theorem dX12_init_79 : decode cX12_init 79 = .ok (.sipush 3840, 3) := by decide +kernel
theorem dX12_init_82 : decode cX12_init 82 = .ok (.newarray .int, 2) := by decide +kernel
theorem dX12_init_84 : decode cX12_init 84 = .ok (.putfield 39, 3) := by decide +kernel
theorem dX12_init_87 : decode cX12_init 87 = .ok (.aload_n 0, 1) := by decide +kernel
theorem dX12_init_88 : decode cX12_init 88 = .ok (.bipush 64, 2) := by decide +kernel
theorem dX12_init_90 : decode cX12_init 90 = .ok (.newarray .int, 2) := by decide +kernel
theorem dX12_init_92 : decode cX12_init 92 = .ok (.putfield 42, 3) := by decide +kernel
theorem dX12_init_95 : decode cX12_init 95 = .ok (.aload_n 0, 1) := by decide +kernel
theorem dX12_init_96 : decode cX12_init 96 = .ok (.bipush 12, 2) := by decide +kernel
theorem dX12_init_98 : decode cX12_init 98 = .ok (.newarray .long, 2) := by decide +kernel
theorem dX12_init_100 : decode cX12_init 100 = .ok (.putfield 45, 3) := by decide +kernel
theorem dX12_init_103 : decode cX12_init 103 = .ok (.aload_n 0, 1) := by decide +kernel
theorem dX12_init_104 : decode cX12_init 104 = .ok (.bipush 12, 2) := by decide +kernel
theorem dX12_init_106 : decode cX12_init 106 = .ok (.newarray .long, 2) := by decide +kernel
theorem dX12_init_108 : decode cX12_init 108 = .ok (.putfield 48, 3) := by decide +kernel
theorem dX12_init_111 : decode cX12_init 111 = .ok (.aload_n 0, 1) := by decide +kernel
theorem dX12_init_112 : decode cX12_init 112 = .ok (.bipush 64, 2) := by decide +kernel
theorem dX12_init_114 : decode cX12_init 114 = .ok (.newarray .int, 2) := by decide +kernel
theorem dX12_init_116 : decode cX12_init 116 = .ok (.putfield 51, 3) := by decide +kernel
theorem dX12_init_119 : decode cX12_init 119 = .ok (.aload_n 0, 1) := by decide +kernel
theorem dX12_init_120 : decode cX12_init 120 = .ok (.bipush 16, 2) := by decide +kernel
theorem dX12_init_122 : decode cX12_init 122 = .ok (.newarray .int, 2) := by decide +kernel
theorem dX12_init_124 : decode cX12_init 124 = .ok (.putfield 54, 3) := by decide +kernel
theorem dX12_init_127 : decode cX12_init 127 = .ok (.aload_n 0, 1) := by decide +kernel
theorem dX12_init_128 : decode cX12_init 128 = .ok (.bipush 16, 2) := by decide +kernel
theorem dX12_init_130 : decode cX12_init 130 = .ok (.newarray .long, 2) := by decide +kernel
theorem dX12_init_132 : decode cX12_init 132 = .ok (.putfield 57, 3) := by decide +kernel
theorem dX12_init_135 : decode cX12_init 135 = .ok (.aload_n 0, 1) := by decide +kernel
theorem dX12_init_136 : decode cX12_init 136 = .ok (.bipush 16, 2) := by decide +kernel
theorem dX12_init_138 : decode cX12_init 138 = .ok (.newarray .int, 2) := by decide +kernel
theorem dX12_init_140 : decode cX12_init 140 = .ok (.putfield 60, 3) := by decide +kernel
theorem dX12_init_143 : decode cX12_init 143 = .ok (.aload_n 0, 1) := by decide +kernel
theorem dX12_init_144 : decode cX12_init 144 = .ok (.bipush 16, 2) := by decide +kernel
theorem dX12_init_146 : decode cX12_init 146 = .ok (.newarray .long, 2) := by decide +kernel
theorem dX12_init_148 : decode cX12_init 148 = .ok (.putfield 63, 3) := by decide +kernel
theorem dX12_init_151 : decode cX12_init 151 = .ok (.aload_n 0, 1) := by decide +kernel
theorem dX12_init_152 : decode cX12_init 152 = .ok (.bipush 16, 2) := by decide +kernel
theorem dX12_init_154 : decode cX12_init 154 = .ok (.newarray .int, 2) := by decide +kernel
theorem dX12_init_156 : decode cX12_init 156 = .ok (.putfield 66, 3) := by decide +kernel
theorem dX12_init_159 : decode cX12_init 159 = .ok (.aload_n 0, 1) := by decide +kernel
theorem dX12_init_160 : decode cX12_init 160 = .ok (.bipush 16, 2) := by decide +kernel
theorem dX12_init_162 : decode cX12_init 162 = .ok (.newarray .int, 2) := by decide +kernel
theorem dX12_init_164 : decode cX12_init 164 = .ok (.putfield 69, 3) := by decide +kernel
theorem dX12_init_167 : decode cX12_init 167 = .ok (.aload_n 0, 1) := by decide +kernel
theorem dX12_init_168 : decode cX12_init 168 = .ok (.bipush 16, 2) := by decide +kernel
theorem dX12_init_170 : decode cX12_init 170 = .ok (.newarray .int, 2) := by decide +kernel
theorem dX12_init_172 : decode cX12_init 172 = .ok (.putfield 72, 3) := by decide +kernel
theorem dX12_init_175 : decode cX12_init 175 = .ok (.aload_n 0, 1) := by decide +kernel
theorem dX12_init_176 : decode cX12_init 176 = .ok (.bipush 16, 2) := by decide +kernel
theorem dX12_init_178 : decode cX12_init 178 = .ok (.newarray .int, 2) := by decide +kernel
theorem dX12_init_180 : decode cX12_init 180 = .ok (.putfield 75, 3) := by decide +kernel
theorem dX12_init_183 : decode cX12_init 183 = .ok (.aload_n 0, 1) := by decide +kernel
theorem dX12_init_184 : decode cX12_init 184 = .ok (.bipush 16, 2) := by decide +kernel
theorem dX12_init_186 : decode cX12_init 186 = .ok (.newarray .int, 2) := by decide +kernel
theorem dX12_init_188 : decode cX12_init 188 = .ok (.putfield 78, 3) := by decide +kernel
theorem dX12_init_191 : decode cX12_init 191 = .ok (.aload_n 0, 1) := by decide +kernel
theorem dX12_init_192 : decode cX12_init 192 = .ok (.bipush 16, 2) := by decide +kernel
theorem dX12_init_194 : decode cX12_init 194 = .ok (.newarray .int, 2) := by decide +kernel
theorem dX12_init_196 : decode cX12_init 196 = .ok (.putfield 81, 3) := by decide +kernel
theorem dX12_init_199 : decode cX12_init 199 = .ok (.aload_n 0, 1) := by decide +kernel
theorem dX12_init_200 : decode cX12_init 200 = .ok (.bipush 16, 2) := by decide +kernel
theorem dX12_init_202 : decode cX12_init 202 = .ok (.newarray .long, 2) := by decide +kernel
theorem dX12_init_204 : decode cX12_init 204 = .ok (.putfield 84, 3) := by decide +kernel
theorem dX12_init_207 : decode cX12_init 207 = .ok (.aload_n 0, 1) := by decide +kernel
theorem dX12_init_208 : decode cX12_init 208 = .ok (.bipush 16, 2) := by decide +kernel
theorem dX12_init_210 : decode cX12_init 210 = .ok (.newarray .long, 2) := by decide +kernel
theorem dX12_init_212 : decode cX12_init 212 = .ok (.putfield 87, 3) := by decide +kernel
theorem dX12_init_215 : decode cX12_init 215 = .ok (.aload_n 0, 1) := by decide +kernel
theorem dX12_init_216 : decode cX12_init 216 = .ok (.bipush 16, 2) := by decide +kernel
theorem dX12_init_218 : decode cX12_init 218 = .ok (.newarray .long, 2) := by decide +kernel
theorem dX12_init_220 : decode cX12_init 220 = .ok (.putfield 90, 3) := by decide +kernel
theorem dX12_init_223 : decode cX12_init 223 = .ok (.aload_n 0, 1) := by decide +kernel
theorem dX12_init_224 : decode cX12_init 224 = .ok (.bipush 16, 2) := by decide +kernel
theorem dX12_init_226 : decode cX12_init 226 = .ok (.newarray .int, 2) := by decide +kernel
theorem dX12_init_228 : decode cX12_init 228 = .ok (.putfield 93, 3) := by decide +kernel
theorem dX12_init_231 : decode cX12_init 231 = .ok (.aload_n 0, 1) := by decide +kernel
theorem dX12_init_232 : decode cX12_init 232 = .ok (.bipush 8, 2) := by decide +kernel
theorem dX12_init_234 : decode cX12_init 234 = .ok (.newarray .long, 2) := by decide +kernel
theorem dX12_init_236 : decode cX12_init 236 = .ok (.putfield 96, 3) := by decide +kernel
theorem dX12_init_239 : decode cX12_init 239 = .ok (.aload_n 0, 1) := by decide +kernel
theorem dX12_init_240 : decode cX12_init 240 = .ok (.bipush 8, 2) := by decide +kernel
theorem dX12_init_242 : decode cX12_init 242 = .ok (.newarray .long, 2) := by decide +kernel
theorem dX12_init_244 : decode cX12_init 244 = .ok (.putfield 99, 3) := by decide +kernel
theorem dX12_init_247 : decode cX12_init 247 = .ok (.aload_n 0, 1) := by decide +kernel
theorem dX12_init_248 : decode cX12_init 248 = .ok (.bipush 8, 2) := by decide +kernel
theorem dX12_init_250 : decode cX12_init 250 = .ok (.newarray .long, 2) := by decide +kernel
theorem dX12_init_252 : decode cX12_init 252 = .ok (.putfield 102, 3) := by decide +kernel
theorem dX12_init_255 : decode cX12_init 255 = .ok (.aload_n 0, 1) := by decide +kernel
theorem dX12_init_256 : decode cX12_init 256 = .ok (.bipush 8, 2) := by decide +kernel
theorem dX12_init_258 : decode cX12_init 258 = .ok (.newarray .int, 2) := by decide +kernel
theorem dX12_init_260 : decode cX12_init 260 = .ok (.putfield 105, 3) := by decide +kernel
theorem dX12_init_263 : decode cX12_init 263 = .ok (.aload_n 0, 1) := by decide +kernel
theorem dX12_init_264 : decode cX12_init 264 = .ok (.bipush 8, 2) := by decide +kernel
theorem dX12_init_266 : decode cX12_init 266 = .ok (.newarray .int, 2) := by decide +kernel
theorem dX12_init_268 : decode cX12_init 268 = .ok (.putfield 108, 3) := by decide +kernel
theorem dX12_init_271 : decode cX12_init 271 = .ok (.aload_n 0, 1) := by decide +kernel
theorem dX12_init_272 : decode cX12_init 272 = .ok (.bipush 8, 2) := by decide +kernel
theorem dX12_init_274 : decode cX12_init 274 = .ok (.newarray .long, 2) := by decide +kernel
theorem dX12_init_276 : decode cX12_init 276 = .ok (.putfield 111, 3) := by decide +kernel
theorem dX12_init_279 : decode cX12_init 279 = .ok (.aload_n 0, 1) := by decide +kernel
theorem dX12_init_280 : decode cX12_init 280 = .ok (.bipush 8, 2) := by decide +kernel
theorem dX12_init_282 : decode cX12_init 282 = .ok (.newarray .int, 2) := by decide +kernel
theorem dX12_init_284 : decode cX12_init 284 = .ok (.putfield 114, 3) := by decide +kernel
theorem dX12_init_287 : decode cX12_init 287 = .ok (.aload_n 0, 1) := by decide +kernel
theorem dX12_init_288 : decode cX12_init 288 = .ok (.bipush 8, 2) := by decide +kernel
theorem dX12_init_290 : decode cX12_init 290 = .ok (.newarray .long, 2) := by decide +kernel
theorem dX12_init_292 : decode cX12_init 292 = .ok (.putfield 117, 3) := by decide +kernel
theorem dX12_init_295 : decode cX12_init 295 = .ok (.aload_n 0, 1) := by decide +kernel
theorem dX12_init_296 : decode cX12_init 296 = .ok (.bipush 8, 2) := by decide +kernel
theorem dX12_init_298 : decode cX12_init 298 = .ok (.newarray .long, 2) := by decide +kernel
theorem dX12_init_300 : decode cX12_init 300 = .ok (.putfield 120, 3) := by decide +kernel
theorem dX12_init_303 : decode cX12_init 303 = .ok (.aload_n 0, 1) := by decide +kernel
theorem dX12_init_304 : decode cX12_init 304 = .ok (.bipush 8, 2) := by decide +kernel
theorem dX12_init_306 : decode cX12_init 306 = .ok (.newarray .int, 2) := by decide +kernel
theorem dX12_init_308 : decode cX12_init 308 = .ok (.putfield 123, 3) := by decide +kernel
theorem dX12_init_311 : decode cX12_init 311 = .ok (.aload_n 0, 1) := by decide +kernel
theorem dX12_init_312 : decode cX12_init 312 = .ok (.bipush 8, 2) := by decide +kernel
theorem dX12_init_314 : decode cX12_init 314 = .ok (.newarray .int, 2) := by decide +kernel
theorem dX12_init_316 : decode cX12_init 316 = .ok (.putfield 126, 3) := by decide +kernel
theorem dX12_init_319 : decode cX12_init 319 = .ok (.aload_n 0, 1) := by decide +kernel
theorem dX12_init_320 : decode cX12_init 320 = .ok (.bipush 8, 2) := by decide +kernel
theorem dX12_init_322 : decode cX12_init 322 = .ok (.newarray .int, 2) := by decide +kernel
theorem dX12_init_324 : decode cX12_init 324 = .ok (.putfield 129, 3) := by decide +kernel
theorem dX12_init_327 : decode cX12_init 327 = .ok (.aload_n 0, 1) := by decide +kernel
theorem dX12_init_328 : decode cX12_init 328 = .ok (.bipush 8, 2) := by decide +kernel
theorem dX12_init_330 : decode cX12_init 330 = .ok (.newarray .int, 2) := by decide +kernel
theorem dX12_init_332 : decode cX12_init 332 = .ok (.putfield 132, 3) := by decide +kernel
theorem dX12_init_335 : decode cX12_init 335 = .ok (.aload_n 0, 1) := by decide +kernel
theorem dX12_init_336 : decode cX12_init 336 = .ok (.bipush 8, 2) := by decide +kernel
theorem dX12_init_338 : decode cX12_init 338 = .ok (.newarray .int, 2) := by decide +kernel
theorem dX12_init_340 : decode cX12_init 340 = .ok (.putfield 135, 3) := by decide +kernel
theorem dX12_init_343 : decode cX12_init 343 = .ok (.aload_n 0, 1) := by decide +kernel
theorem dX12_init_344 : decode cX12_init 344 = .ok (.bipush 8, 2) := by decide +kernel
theorem dX12_init_346 : decode cX12_init 346 = .ok (.newarray .int, 2) := by decide +kernel
theorem dX12_init_348 : decode cX12_init 348 = .ok (.putfield 138, 3) := by decide +kernel
theorem dX12_init_351 : decode cX12_init 351 = .ok (.aload_n 0, 1) := by decide +kernel
theorem dX12_init_352 : decode cX12_init 352 = .ok (.sipush 600, 3) := by decide +kernel
theorem dX12_init_355 : decode cX12_init 355 = .ok (.newarray .int, 2) := by decide +kernel
theorem dX12_init_357 : decode cX12_init 357 = .ok (.putfield 141, 3) := by decide +kernel
theorem dX12_init_360 : decode cX12_init 360 = .ok (.aload_n 0, 1) := by decide +kernel
theorem dX12_init_361 : decode cX12_init 361 = .ok (.sipush 600, 3) := by decide +kernel
theorem dX12_init_364 : decode cX12_init 364 = .ok (.newarray .boolean, 2) := by decide +kernel
theorem dX12_init_366 : decode cX12_init 366 = .ok (.putfield 144, 3) := by decide +kernel
theorem dX12_init_369 : decode cX12_init 369 = .ok (.aload_n 0, 1) := by decide +kernel
theorem dX12_init_370 : decode cX12_init 370 = .ok (.sipush 4200, 3) := by decide +kernel
theorem dX12_init_373 : decode cX12_init 373 = .ok (.newarray .long, 2) := by decide +kernel
theorem dX12_init_375 : decode cX12_init 375 = .ok (.putfield 148, 3) := by decide +kernel
theorem dX12_init_378 : decode cX12_init 378 = .ok (.aload_n 0, 1) := by decide +kernel
theorem dX12_init_379 : decode cX12_init 379 = .ok (.sipush 1800, 3) := by decide +kernel
theorem dX12_init_382 : decode cX12_init 382 = .ok (.newarray .long, 2) := by decide +kernel
theorem dX12_init_384 : decode cX12_init 384 = .ok (.putfield 151, 3) := by decide +kernel
theorem dX12_init_387 : decode cX12_init 387 = .ok (.aload_n 0, 1) := by decide +kernel
theorem dX12_init_388 : decode cX12_init 388 = .ok (.sipush 4200, 3) := by decide +kernel
theorem dX12_init_391 : decode cX12_init 391 = .ok (.newarray .long, 2) := by decide +kernel
theorem dX12_init_393 : decode cX12_init 393 = .ok (.putfield 154, 3) := by decide +kernel
theorem dX12_init_396 : decode cX12_init 396 = .ok (.aload_n 0, 1) := by decide +kernel
theorem dX12_init_397 : decode cX12_init 397 = .ok (.sipush 4200, 3) := by decide +kernel
theorem dX12_init_400 : decode cX12_init 400 = .ok (.newarray .long, 2) := by decide +kernel
theorem dX12_init_402 : decode cX12_init 402 = .ok (.putfield 157, 3) := by decide +kernel
theorem dX12_init_405 : decode cX12_init 405 = .ok (.return_, 1) := by decide +kernel
theorem dX12_isIn_0 : decode cX12_isIn 0 = .ok (.lload_n 0, 1) := by decide +kernel
theorem dX12_isIn_1 : decode cX12_isIn 1 = .ok (.lload_n 2, 1) := by decide +kernel
theorem dX12_isIn_2 : decode cX12_isIn 2 = .ok (.lcmp, 1) := by decide +kernel
theorem dX12_isIn_3 : decode cX12_isIn 3 = .ok (.ifCond .lt 14, 3) := by decide +kernel
theorem dX12_isIn_6 : decode cX12_isIn 6 = .ok (.lload_n 0, 1) := by decide +kernel
theorem dX12_isIn_7 : decode cX12_isIn 7 = .ok (.lload 4, 2) := by decide +kernel
theorem dX12_isIn_9 : decode cX12_isIn 9 = .ok (.lcmp, 1) := by decide +kernel
theorem dX12_isIn_10 : decode cX12_isIn 10 = .ok (.ifCond .gt 7, 3) := by decide +kernel
theorem dX12_isIn_13 : decode cX12_isIn 13 = .ok (.iconst 1, 1) := by decide +kernel
theorem dX12_isIn_14 : decode cX12_isIn 14 = .ok (.goto 4, 3) := by decide +kernel
theorem dX12_isIn_17 : decode cX12_isIn 17 = .ok (.iconst 0, 1) := by decide +kernel
theorem dX12_isIn_18 : decode cX12_isIn 18 = .ok (.ireturn, 1) := by decide +kernel
theorem dX12_begin_0 : decode cX12_begin 0 = .ok (.aload_n 0, 1) := by decide +kernel
theorem dX12_begin_1 : decode cX12_begin 1 = .ok (.getfield 21, 3) := by decide +kernel
theorem dX12_begin_4 : decode cX12_begin 4 = .ok (.iconst 0, 1) := by decide +kernel
theorem dX12_begin_5 : decode cX12_begin 5 = .ok (.lload_n 1, 1) := by decide +kernel
theorem dX12_begin_6 : decode cX12_begin 6 = .ok (.lastore, 1) := by decide +kernel
theorem dX12_begin_7 : decode cX12_begin 7 = .ok (.aload_n 0, 1) := by decide +kernel
theorem dX12_begin_8 : decode cX12_begin 8 = .ok (.iconst 1, 1) := by decide +kernel
theorem dX12_begin_9 : decode cX12_begin 9 = .ok (.putfield 160, 3) := by decide +kernel
theorem dX12_begin_12 : decode cX12_begin 12 = .ok (.return_, 1) := by decide +kernel
theorem dX12_more_0 : decode cX12_more 0 = .ok (.aload_n 0, 1) := by decide +kernel
theorem dX12_more_1 : decode cX12_more 1 = .ok (.getfield 21, 3) := by decide +kernel
theorem dX12_more_4 : decode cX12_more 4 = .ok (.aload_n 0, 1) := by decide +kernel
theorem dX12_more_5 : decode cX12_more 5 = .ok (.getfield 160, 3) := by decide +kernel
theorem dX12_more_8 : decode cX12_more 8 = .ok (.lload_n 1, 1) := by decide +kernel
theorem dX12_more_9 : decode cX12_more 9 = .ok (.lastore, 1) := by decide +kernel
theorem dX12_more_10 : decode cX12_more 10 = .ok (.aload_n 0, 1) := by decide +kernel
theorem dX12_more_11 : decode cX12_more 11 = .ok (.dup, 1) := by decide +kernel
theorem dX12_more_12 : decode cX12_more 12 = .ok (.getfield 160, 3) := by decide +kernel
theorem dX12_more_15 : decode cX12_more 15 = .ok (.iconst 1, 1) := by decide +kernel
theorem dX12_more_16 : decode cX12_more 16 = .ok (.iadd, 1) := by decide +kernel
theorem dX12_more_17 : decode cX12_more 17 = .ok (.putfield 160, 3) := by decide +kernel
theorem dX12_more_20 : decode cX12_more 20 = .ok (.return_, 1) := by decide +kernel
theorem dX12_find_0 : decode cX12_find 0 = .ok (.sipush 256, 3) := by decide +kernel
theorem dX12_find_3 : decode cX12_find 3 = .ok (.iload_n 1, 1) := by decide +kernel
theorem dX12_find_4 : decode cX12_find 4 = .ok (.imul, 1) := by decide +kernel
theorem dX12_find_5 : decode cX12_find 5 = .ok (.lload_n 2, 1) := by decide +kernel
theorem dX12_find_6 : decode cX12_find 6 = .ok (.l2i, 1) := by decide +kernel
theorem dX12_find_7 : decode cX12_find 7 = .ok (.iadd, 1) := by decide +kernel
theorem dX12_find_8 : decode cX12_find 8 = .ok (.istore 4, 2) := by decide +kernel
theorem dX12_find_10 : decode cX12_find 10 = .ok (.iconst 0, 1) := by decide +kernel
theorem dX12_find_11 : decode cX12_find 11 = .ok (.istore 5, 2) := by decide +kernel
theorem dX12_find_13 : decode cX12_find 13 = .ok (.iload 5, 2) := by decide +kernel
theorem dX12_find_15 : decode cX12_find 15 = .ok (.aload_n 0, 1) := by decide +kernel
theorem dX12_find_16 : decode cX12_find 16 = .ok (.getfield 164, 3) := by decide +kernel
theorem dX12_find_19 : decode cX12_find 19 = .ok (.if_icmp .ge 106, 3) := by decide +kernel
theorem dX12_find_22 : decode cX12_find 22 = .ok (.aload_n 0, 1) := by decide +kernel
theorem dX12_find_23 : decode cX12_find 23 = .ok (.getfield 7, 3) := by decide +kernel
theorem dX12_find_26 : decode cX12_find 26 = .ok (.iload 5, 2) := by decide +kernel
theorem dX12_find_28 : decode cX12_find 28 = .ok (.iaload, 1) := by decide +kernel
theorem dX12_find_29 : decode cX12_find 29 = .ok (.iload 4, 2) := by decide +kernel
theorem dX12_find_31 : decode cX12_find 31 = .ok (.if_icmp .ne 21, 3) := by decide +kernel
theorem dX12_find_34 : decode cX12_find 34 = .ok (.aload_n 0, 1) := by decide +kernel
theorem dX12_find_35 : decode cX12_find 35 = .ok (.getfield 13, 3) := by decide +kernel
theorem dX12_find_38 : decode cX12_find 38 = .ok (.iload 5, 2) := by decide +kernel
theorem dX12_find_40 : decode cX12_find 40 = .ok (.iaload, 1) := by decide +kernel
theorem dX12_find_41 : decode cX12_find 41 = .ok (.aload_n 0, 1) := by decide +kernel
theorem dX12_find_42 : decode cX12_find 42 = .ok (.getfield 160, 3) := by decide +kernel
theorem dX12_find_45 : decode cX12_find 45 = .ok (.if_icmp .ne 7, 3) := by decide +kernel
theorem dX12_find_48 : decode cX12_find 48 = .ok (.iconst 1, 1) := by decide +kernel
theorem dX12_find_49 : decode cX12_find 49 = .ok (.goto 4, 3) := by decide +kernel
theorem dX12_find_52 : decode cX12_find 52 = .ok (.iconst 0, 1) := by decide +kernel
theorem dX12_find_53 : decode cX12_find 53 = .ok (.istore 6, 2) := by decide +kernel
theorem dX12_find_55 : decode cX12_find 55 = .ok (.iconst 0, 1) := by decide +kernel
theorem dX12_find_56 : decode cX12_find 56 = .ok (.istore 7, 2) := by decide +kernel
theorem dX12_find_58 : decode cX12_find 58 = .ok (.iload 7, 2) := by decide +kernel
theorem dX12_find_60 : decode cX12_find 60 = .ok (.aload_n 0, 1) := by decide +kernel
theorem dX12_find_61 : decode cX12_find 61 = .ok (.getfield 160, 3) := by decide +kernel
theorem dX12_find_64 : decode cX12_find 64 = .ok (.if_icmp .ge 45, 3) := by decide +kernel
theorem dX12_find_67 : decode cX12_find 67 = .ok (.iload 6, 2) := by decide +kernel
theorem dX12_find_69 : decode cX12_find 69 = .ok (.ifCond .eq 40, 3) := by decide +kernel
theorem dX12_find_72 : decode cX12_find 72 = .ok (.aload_n 0, 1) := by decide +kernel
theorem dX12_find_73 : decode cX12_find 73 = .ok (.getfield 17, 3) := by decide +kernel
theorem dX12_find_76 : decode cX12_find 76 = .ok (.bipush 12, 2) := by decide +kernel
theorem dX12_find_78 : decode cX12_find 78 = .ok (.iload 5, 2) := by decide +kernel
theorem dX12_find_80 : decode cX12_find 80 = .ok (.imul, 1) := by decide +kernel
theorem dX12_find_81 : decode cX12_find 81 = .ok (.iload 7, 2) := by decide +kernel
theorem dX12_find_83 : decode cX12_find 83 = .ok (.iadd, 1) := by decide +kernel
theorem dX12_find_84 : decode cX12_find 84 = .ok (.laload, 1) := by decide +kernel
theorem dX12_find_85 : decode cX12_find 85 = .ok (.aload_n 0, 1) := by decide +kernel
theorem dX12_find_86 : decode cX12_find 86 = .ok (.getfield 21, 3) := by decide +kernel
theorem dX12_find_89 : decode cX12_find 89 = .ok (.iload 7, 2) := by decide +kernel
theorem dX12_find_91 : decode cX12_find 91 = .ok (.laload, 1) := by decide +kernel
theorem dX12_find_92 : decode cX12_find 92 = .ok (.lcmp, 1) := by decide +kernel
theorem dX12_find_93 : decode cX12_find 93 = .ok (.ifCond .ne 7, 3) := by decide +kernel
theorem dX12_find_96 : decode cX12_find 96 = .ok (.iconst 1, 1) := by decide +kernel
theorem dX12_find_97 : decode cX12_find 97 = .ok (.goto 4, 3) := by decide +kernel
theorem dX12_find_100 : decode cX12_find 100 = .ok (.iconst 0, 1) := by decide +kernel
theorem dX12_find_101 : decode cX12_find 101 = .ok (.istore 6, 2) := by decide +kernel
theorem dX12_find_103 : decode cX12_find 103 = .ok (.iinc 7 1, 3) := by decide +kernel
theorem dX12_find_106 : decode cX12_find 106 = .ok (.goto (-48), 3) := by decide +kernel
theorem dX12_find_109 : decode cX12_find 109 = .ok (.iload 6, 2) := by decide +kernel
theorem dX12_find_111 : decode cX12_find 111 = .ok (.ifCond .eq 8, 3) := by decide +kernel
theorem dX12_find_114 : decode cX12_find 114 = .ok (.iload 5, 2) := by decide +kernel
theorem dX12_find_116 : decode cX12_find 116 = .ok (.iconst 1, 1) := by decide +kernel
theorem dX12_find_117 : decode cX12_find 117 = .ok (.iadd, 1) := by decide +kernel
theorem dX12_find_118 : decode cX12_find 118 = .ok (.ireturn, 1) := by decide +kernel
theorem dX12_find_119 : decode cX12_find 119 = .ok (.iinc 5 1, 3) := by decide +kernel
theorem dX12_find_122 : decode cX12_find 122 = .ok (.goto (-109), 3) := by decide +kernel
theorem dX12_find_125 : decode cX12_find 125 = .ok (.iconst 0, 1) := by decide +kernel
theorem dX12_find_126 : decode cX12_find 126 = .ok (.ireturn, 1) := by decide +kernel
theorem dX12_seal_0 : decode cX12_seal 0 = .ok (.aload_n 0, 1) := by decide +kernel
theorem dX12_seal_1 : decode cX12_seal 1 = .ok (.iload_n 1, 1) := by decide +kernel
theorem dX12_seal_2 : decode cX12_seal 2 = .ok (.lload_n 2, 1) := by decide +kernel
theorem dX12_seal_3 : decode cX12_seal 3 = .ok (.invokevirtual 167, 3) := by decide +kernel
theorem dX12_seal_6 : decode cX12_seal 6 = .ok (.istore 4, 2) := by decide +kernel
theorem dX12_seal_8 : decode cX12_seal 8 = .ok (.iload 4, 2) := by decide +kernel
theorem dX12_seal_10 : decode cX12_seal 10 = .ok (.ifCond .le 6, 3) := by decide +kernel
theorem dX12_seal_13 : decode cX12_seal 13 = .ok (.iload 4, 2) := by decide +kernel
theorem dX12_seal_15 : decode cX12_seal 15 = .ok (.ireturn, 1) := by decide +kernel
theorem dX12_seal_16 : decode cX12_seal 16 = .ok (.aload_n 0, 1) := by decide +kernel
theorem dX12_seal_17 : decode cX12_seal 17 = .ok (.getfield 7, 3) := by decide +kernel
theorem dX12_seal_20 : decode cX12_seal 20 = .ok (.aload_n 0, 1) := by decide +kernel
theorem dX12_seal_21 : decode cX12_seal 21 = .ok (.getfield 164, 3) := by decide +kernel
theorem dX12_seal_24 : decode cX12_seal 24 = .ok (.sipush 256, 3) := by decide +kernel
theorem dX12_seal_27 : decode cX12_seal 27 = .ok (.iload_n 1, 1) := by decide +kernel
theorem dX12_seal_28 : decode cX12_seal 28 = .ok (.imul, 1) := by decide +kernel
theorem dX12_seal_29 : decode cX12_seal 29 = .ok (.lload_n 2, 1) := by decide +kernel
theorem dX12_seal_30 : decode cX12_seal 30 = .ok (.l2i, 1) := by decide +kernel
theorem dX12_seal_31 : decode cX12_seal 31 = .ok (.iadd, 1) := by decide +kernel
theorem dX12_seal_32 : decode cX12_seal 32 = .ok (.iastore, 1) := by decide +kernel
theorem dX12_seal_33 : decode cX12_seal 33 = .ok (.aload_n 0, 1) := by decide +kernel
theorem dX12_seal_34 : decode cX12_seal 34 = .ok (.getfield 13, 3) := by decide +kernel
theorem dX12_seal_37 : decode cX12_seal 37 = .ok (.aload_n 0, 1) := by decide +kernel
theorem dX12_seal_38 : decode cX12_seal 38 = .ok (.getfield 164, 3) := by decide +kernel
theorem dX12_seal_41 : decode cX12_seal 41 = .ok (.aload_n 0, 1) := by decide +kernel
theorem dX12_seal_42 : decode cX12_seal 42 = .ok (.getfield 160, 3) := by decide +kernel
theorem dX12_seal_45 : decode cX12_seal 45 = .ok (.iastore, 1) := by decide +kernel
theorem dX12_seal_46 : decode cX12_seal 46 = .ok (.iconst 0, 1) := by decide +kernel
theorem dX12_seal_47 : decode cX12_seal 47 = .ok (.istore 5, 2) := by decide +kernel
theorem dX12_seal_49 : decode cX12_seal 49 = .ok (.iload 5, 2) := by decide +kernel
theorem dX12_seal_51 : decode cX12_seal 51 = .ok (.aload_n 0, 1) := by decide +kernel
theorem dX12_seal_52 : decode cX12_seal 52 = .ok (.getfield 160, 3) := by decide +kernel
theorem dX12_seal_55 : decode cX12_seal 55 = .ok (.if_icmp .ge 31, 3) := by decide +kernel
theorem dX12_seal_58 : decode cX12_seal 58 = .ok (.aload_n 0, 1) := by decide +kernel
theorem dX12_seal_59 : decode cX12_seal 59 = .ok (.getfield 17, 3) := by decide +kernel
theorem dX12_seal_62 : decode cX12_seal 62 = .ok (.bipush 12, 2) := by decide +kernel
theorem dX12_seal_64 : decode cX12_seal 64 = .ok (.aload_n 0, 1) := by decide +kernel
theorem dX12_seal_65 : decode cX12_seal 65 = .ok (.getfield 164, 3) := by decide +kernel
theorem dX12_seal_68 : decode cX12_seal 68 = .ok (.imul, 1) := by decide +kernel
theorem dX12_seal_69 : decode cX12_seal 69 = .ok (.iload 5, 2) := by decide +kernel
theorem dX12_seal_71 : decode cX12_seal 71 = .ok (.iadd, 1) := by decide +kernel
theorem dX12_seal_72 : decode cX12_seal 72 = .ok (.aload_n 0, 1) := by decide +kernel
theorem dX12_seal_73 : decode cX12_seal 73 = .ok (.getfield 21, 3) := by decide +kernel
theorem dX12_seal_76 : decode cX12_seal 76 = .ok (.iload 5, 2) := by decide +kernel
theorem dX12_seal_78 : decode cX12_seal 78 = .ok (.laload, 1) := by decide +kernel
theorem dX12_seal_79 : decode cX12_seal 79 = .ok (.lastore, 1) := by decide +kernel
theorem dX12_seal_80 : decode cX12_seal 80 = .ok (.iinc 5 1, 3) := by decide +kernel
theorem dX12_seal_83 : decode cX12_seal 83 = .ok (.goto (-34), 3) := by decide +kernel
theorem dX12_seal_86 : decode cX12_seal 86 = .ok (.aload_n 0, 1) := by decide +kernel
theorem dX12_seal_87 : decode cX12_seal 87 = .ok (.dup, 1) := by decide +kernel
theorem dX12_seal_88 : decode cX12_seal 88 = .ok (.getfield 164, 3) := by decide +kernel
theorem dX12_seal_91 : decode cX12_seal 91 = .ok (.iconst 1, 1) := by decide +kernel
theorem dX12_seal_92 : decode cX12_seal 92 = .ok (.iadd, 1) := by decide +kernel
theorem dX12_seal_93 : decode cX12_seal 93 = .ok (.putfield 164, 3) := by decide +kernel
theorem dX12_seal_96 : decode cX12_seal 96 = .ok (.aload_n 0, 1) := by decide +kernel
theorem dX12_seal_97 : decode cX12_seal 97 = .ok (.getfield 164, 3) := by decide +kernel
theorem dX12_seal_100 : decode cX12_seal 100 = .ok (.ireturn, 1) := by decide +kernel
theorem dX12_isGood_0 : decode cX12_isGood 0 = .ok (.lload 4, 2) := by decide +kernel
theorem dX12_isGood_2 : decode cX12_isGood 2 = .ok (.lconst 0, 1) := by decide +kernel
theorem dX12_isGood_3 : decode cX12_isGood 3 = .ok (.lcmp, 1) := by decide +kernel
theorem dX12_isGood_4 : decode cX12_isGood 4 = .ok (.ifCond .le 20, 3) := by decide +kernel
theorem dX12_isGood_7 : decode cX12_isGood 7 = .ok (.aload_n 0, 1) := by decide +kernel
theorem dX12_isGood_8 : decode cX12_isGood 8 = .ok (.iload_n 1, 1) := by decide +kernel
theorem dX12_isGood_9 : decode cX12_isGood 9 = .ok (.lload_n 2, 1) := by decide +kernel
theorem dX12_isGood_10 : decode cX12_isGood 10 = .ok (.invokevirtual 167, 3) := by decide +kernel
theorem dX12_isGood_13 : decode cX12_isGood 13 = .ok (.i2l, 1) := by decide +kernel
theorem dX12_isGood_14 : decode cX12_isGood 14 = .ok (.lload 4, 2) := by decide +kernel
theorem dX12_isGood_16 : decode cX12_isGood 16 = .ok (.lcmp, 1) := by decide +kernel
theorem dX12_isGood_17 : decode cX12_isGood 17 = .ok (.ifCond .ne 7, 3) := by decide +kernel
theorem dX12_isGood_20 : decode cX12_isGood 20 = .ok (.iconst 1, 1) := by decide +kernel
theorem dX12_isGood_21 : decode cX12_isGood 21 = .ok (.goto 4, 3) := by decide +kernel
theorem dX12_isGood_24 : decode cX12_isGood 24 = .ok (.iconst 0, 1) := by decide +kernel
theorem dX12_isGood_25 : decode cX12_isGood 25 = .ok (.ireturn, 1) := by decide +kernel
theorem dX12_lengthOf_0 : decode cX12_lengthOf 0 = .ok (.iload_n 0, 1) := by decide +kernel
theorem dX12_lengthOf_1 : decode cX12_lengthOf 1 = .ok (.tableswitch 67 1 11 #[59, 61, 63, 65, 59, 59, 59, 65, 61, 59, 65], 59) := by decide +kernel
theorem dX12_lengthOf_60 : decode cX12_lengthOf 60 = .ok (.iconst 1, 1) := by decide +kernel
theorem dX12_lengthOf_61 : decode cX12_lengthOf 61 = .ok (.ireturn, 1) := by decide +kernel
theorem dX12_lengthOf_62 : decode cX12_lengthOf 62 = .ok (.iconst 2, 1) := by decide +kernel
theorem dX12_lengthOf_63 : decode cX12_lengthOf 63 = .ok (.ireturn, 1) := by decide +kernel
theorem dX12_lengthOf_64 : decode cX12_lengthOf 64 = .ok (.iconst 5, 1) := by decide +kernel
theorem dX12_lengthOf_65 : decode cX12_lengthOf 65 = .ok (.ireturn, 1) := by decide +kernel
theorem dX12_lengthOf_66 : decode cX12_lengthOf 66 = .ok (.iconst 4, 1) := by decide +kernel
theorem dX12_lengthOf_67 : decode cX12_lengthOf 67 = .ok (.ireturn, 1) := by decide +kernel
theorem dX12_lengthOf_68 : decode cX12_lengthOf 68 = .ok (.iconst 0, 1) := by decide +kernel
theorem dX12_lengthOf_69 : decode cX12_lengthOf 69 = .ok (.ireturn, 1) := by decide +kernel
theorem dX12_has_0 : decode cX12_has 0 = .ok (.iload_n 0, 1) := by decide +kernel
theorem dX12_has_1 : decode cX12_has 1 = .ok (.tableswitch 266 1 11 #[59, 70, 92, 104, 116, 143, 172, 196, 230, 248, 172], 59) := by decide +kernel
theorem dX12_has_60 : decode cX12_has 60 = .ok (.iload_n 1, 1) := by decide +kernel
theorem dX12_has_61 : decode cX12_has 61 = .ok (.iconst 4, 1) := by decide +kernel
theorem dX12_has_62 : decode cX12_has 62 = .ok (.if_icmp .ne 7, 3) := by decide +kernel
theorem dX12_has_65 : decode cX12_has 65 = .ok (.iconst 1, 1) := by decide +kernel
theorem dX12_has_66 : decode cX12_has 66 = .ok (.goto 4, 3) := by decide +kernel
theorem dX12_has_69 : decode cX12_has 69 = .ok (.iconst 0, 1) := by decide +kernel
theorem dX12_has_70 : decode cX12_has 70 = .ok (.ireturn, 1) := by decide +kernel
theorem dX12_has_71 : decode cX12_has 71 = .ok (.iload_n 1, 1) := by decide +kernel
theorem dX12_has_72 : decode cX12_has 72 = .ok (.iconst 1, 1) := by decide +kernel
theorem dX12_has_73 : decode cX12_has 73 = .ok (.if_icmp .eq 14, 3) := by decide +kernel
theorem dX12_has_76 : decode cX12_has 76 = .ok (.iload_n 1, 1) := by decide +kernel
theorem dX12_has_77 : decode cX12_has 77 = .ok (.iconst 2, 1) := by decide +kernel
theorem dX12_has_78 : decode cX12_has 78 = .ok (.if_icmp .eq 9, 3) := by decide +kernel
theorem dX12_has_81 : decode cX12_has 81 = .ok (.iload_n 1, 1) := by decide +kernel
theorem dX12_has_82 : decode cX12_has 82 = .ok (.bipush 8, 2) := by decide +kernel
theorem dX12_has_84 : decode cX12_has 84 = .ok (.if_icmp .ne 7, 3) := by decide +kernel
theorem dX12_has_87 : decode cX12_has 87 = .ok (.iconst 1, 1) := by decide +kernel
theorem dX12_has_88 : decode cX12_has 88 = .ok (.goto 4, 3) := by decide +kernel
theorem dX12_has_91 : decode cX12_has 91 = .ok (.iconst 0, 1) := by decide +kernel
theorem dX12_has_92 : decode cX12_has 92 = .ok (.ireturn, 1) := by decide +kernel
theorem dX12_has_93 : decode cX12_has 93 = .ok (.iload_n 1, 1) := by decide +kernel
theorem dX12_has_94 : decode cX12_has 94 = .ok (.bipush 9, 2) := by decide +kernel
theorem dX12_has_96 : decode cX12_has 96 = .ok (.if_icmp .ne 7, 3) := by decide +kernel
theorem dX12_has_99 : decode cX12_has 99 = .ok (.iconst 1, 1) := by decide +kernel
theorem dX12_has_100 : decode cX12_has 100 = .ok (.goto 4, 3) := by decide +kernel
theorem dX12_has_103 : decode cX12_has 103 = .ok (.iconst 0, 1) := by decide +kernel
theorem dX12_has_104 : decode cX12_has 104 = .ok (.ireturn, 1) := by decide +kernel
theorem dX12_has_105 : decode cX12_has 105 = .ok (.iload_n 1, 1) := by decide +kernel
theorem dX12_has_106 : decode cX12_has 106 = .ok (.bipush 6, 2) := by decide +kernel
theorem dX12_has_108 : decode cX12_has 108 = .ok (.if_icmp .ne 7, 3) := by decide +kernel
theorem dX12_has_111 : decode cX12_has 111 = .ok (.iconst 1, 1) := by decide +kernel
theorem dX12_has_112 : decode cX12_has 112 = .ok (.goto 4, 3) := by decide +kernel
theorem dX12_has_115 : decode cX12_has 115 = .ok (.iconst 0, 1) := by decide +kernel
theorem dX12_has_116 : decode cX12_has 116 = .ok (.ireturn, 1) := by decide +kernel
theorem dX12_has_117 : decode cX12_has 117 = .ok (.iload_n 1, 1) := by decide +kernel
theorem dX12_has_118 : decode cX12_has 118 = .ok (.iconst 3, 1) := by decide +kernel
theorem dX12_has_119 : decode cX12_has 119 = .ok (.if_icmp .eq 19, 3) := by decide +kernel
theorem dX12_has_122 : decode cX12_has 122 = .ok (.iload_n 1, 1) := by decide +kernel
theorem dX12_has_123 : decode cX12_has 123 = .ok (.iconst 4, 1) := by decide +kernel
theorem dX12_has_124 : decode cX12_has 124 = .ok (.if_icmp .eq 14, 3) := by decide +kernel
theorem dX12_has_127 : decode cX12_has 127 = .ok (.iload_n 1, 1) := by decide +kernel
theorem dX12_has_128 : decode cX12_has 128 = .ok (.iconst 5, 1) := by decide +kernel
theorem dX12_has_129 : decode cX12_has 129 = .ok (.if_icmp .eq 9, 3) := by decide +kernel
theorem dX12_has_132 : decode cX12_has 132 = .ok (.iload_n 1, 1) := by decide +kernel
theorem dX12_has_133 : decode cX12_has 133 = .ok (.bipush 7, 2) := by decide +kernel
theorem dX12_has_135 : decode cX12_has 135 = .ok (.if_icmp .ne 7, 3) := by decide +kernel
theorem dX12_has_138 : decode cX12_has 138 = .ok (.iconst 1, 1) := by decide +kernel
theorem dX12_has_139 : decode cX12_has 139 = .ok (.goto 4, 3) := by decide +kernel
theorem dX12_has_142 : decode cX12_has 142 = .ok (.iconst 0, 1) := by decide +kernel
theorem dX12_has_143 : decode cX12_has 143 = .ok (.ireturn, 1) := by decide +kernel
theorem dX12_has_144 : decode cX12_has 144 = .ok (.iload_n 1, 1) := by decide +kernel
theorem dX12_has_145 : decode cX12_has 145 = .ok (.iconst 2, 1) := by decide +kernel
theorem dX12_has_146 : decode cX12_has 146 = .ok (.if_icmp .eq 21, 3) := by decide +kernel
theorem dX12_has_149 : decode cX12_has 149 = .ok (.iload_n 1, 1) := by decide +kernel
theorem dX12_has_150 : decode cX12_has 150 = .ok (.bipush 6, 2) := by decide +kernel
theorem dX12_has_152 : decode cX12_has 152 = .ok (.if_icmp .eq 15, 3) := by decide +kernel
theorem dX12_has_155 : decode cX12_has 155 = .ok (.iload_n 1, 1) := by decide +kernel
theorem dX12_has_156 : decode cX12_has 156 = .ok (.bipush 7, 2) := by decide +kernel
theorem dX12_has_158 : decode cX12_has 158 = .ok (.if_icmp .eq 9, 3) := by decide +kernel
theorem dX12_has_161 : decode cX12_has 161 = .ok (.iload_n 1, 1) := by decide +kernel
theorem dX12_has_162 : decode cX12_has 162 = .ok (.bipush 8, 2) := by decide +kernel
theorem dX12_has_164 : decode cX12_has 164 = .ok (.if_icmp .ne 7, 3) := by decide +kernel
theorem dX12_has_167 : decode cX12_has 167 = .ok (.iconst 1, 1) := by decide +kernel
theorem dX12_has_168 : decode cX12_has 168 = .ok (.goto 4, 3) := by decide +kernel
theorem dX12_has_171 : decode cX12_has 171 = .ok (.iconst 0, 1) := by decide +kernel
theorem dX12_has_172 : decode cX12_has 172 = .ok (.ireturn, 1) := by decide +kernel
theorem dX12_has_173 : decode cX12_has 173 = .ok (.iload_n 1, 1) := by decide +kernel
theorem dX12_has_174 : decode cX12_has 174 = .ok (.bipush 6, 2) := by decide +kernel
theorem dX12_has_176 : decode cX12_has 176 = .ok (.if_icmp .le 15, 3) := by decide +kernel
theorem dX12_has_179 : decode cX12_has 179 = .ok (.iload_n 1, 1) := by decide +kernel
theorem dX12_has_180 : decode cX12_has 180 = .ok (.bipush 8, 2) := by decide +kernel
theorem dX12_has_182 : decode cX12_has 182 = .ok (.if_icmp .eq 9, 3) := by decide +kernel
theorem dX12_has_185 : decode cX12_has 185 = .ok (.iload_n 1, 1) := by decide +kernel
theorem dX12_has_186 : decode cX12_has 186 = .ok (.bipush 11, 2) := by decide +kernel
theorem dX12_has_188 : decode cX12_has 188 = .ok (.if_icmp .ne 7, 3) := by decide +kernel
theorem dX12_has_191 : decode cX12_has 191 = .ok (.iconst 1, 1) := by decide +kernel
theorem dX12_has_192 : decode cX12_has 192 = .ok (.goto 4, 3) := by decide +kernel
theorem dX12_has_195 : decode cX12_has 195 = .ok (.iconst 0, 1) := by decide +kernel
theorem dX12_has_196 : decode cX12_has 196 = .ok (.ireturn, 1) := by decide +kernel
theorem dX12_has_197 : decode cX12_has 197 = .ok (.iload_n 1, 1) := by decide +kernel
theorem dX12_has_198 : decode cX12_has 198 = .ok (.iconst 1, 1) := by decide +kernel
theorem dX12_has_199 : decode cX12_has 199 = .ok (.if_icmp .eq 26, 3) := by decide +kernel
theorem dX12_has_202 : decode cX12_has 202 = .ok (.iload_n 1, 1) := by decide +kernel
theorem dX12_has_203 : decode cX12_has 203 = .ok (.iconst 2, 1) := by decide +kernel
theorem dX12_has_204 : decode cX12_has 204 = .ok (.if_icmp .eq 21, 3) := by decide +kernel
theorem dX12_has_207 : decode cX12_has 207 = .ok (.iload_n 1, 1) := by decide +kernel
theorem dX12_has_208 : decode cX12_has 208 = .ok (.bipush 8, 2) := by decide +kernel
theorem dX12_has_210 : decode cX12_has 210 = .ok (.if_icmp .eq 15, 3) := by decide +kernel
theorem dX12_has_213 : decode cX12_has 213 = .ok (.iload_n 1, 1) := by decide +kernel
theorem dX12_has_214 : decode cX12_has 214 = .ok (.bipush 10, 2) := by decide +kernel
theorem dX12_has_216 : decode cX12_has 216 = .ok (.if_icmp .eq 9, 3) := by decide +kernel
theorem dX12_has_219 : decode cX12_has 219 = .ok (.iload_n 1, 1) := by decide +kernel
theorem dX12_has_220 : decode cX12_has 220 = .ok (.bipush 11, 2) := by decide +kernel
theorem dX12_has_222 : decode cX12_has 222 = .ok (.if_icmp .ne 7, 3) := by decide +kernel
theorem dX12_has_225 : decode cX12_has 225 = .ok (.iconst 1, 1) := by decide +kernel
theorem dX12_has_226 : decode cX12_has 226 = .ok (.goto 4, 3) := by decide +kernel
theorem dX12_has_229 : decode cX12_has 229 = .ok (.iconst 0, 1) := by decide +kernel
theorem dX12_has_230 : decode cX12_has 230 = .ok (.ireturn, 1) := by decide +kernel
theorem dX12_has_231 : decode cX12_has 231 = .ok (.iload_n 1, 1) := by decide +kernel
theorem dX12_has_232 : decode cX12_has 232 = .ok (.bipush 8, 2) := by decide +kernel
theorem dX12_has_234 : decode cX12_has 234 = .ok (.if_icmp .eq 9, 3) := by decide +kernel
theorem dX12_has_237 : decode cX12_has 237 = .ok (.iload_n 1, 1) := by decide +kernel
theorem dX12_has_238 : decode cX12_has 238 = .ok (.bipush 10, 2) := by decide +kernel
theorem dX12_has_240 : decode cX12_has 240 = .ok (.if_icmp .ne 7, 3) := by decide +kernel
theorem dX12_has_243 : decode cX12_has 243 = .ok (.iconst 1, 1) := by decide +kernel
theorem dX12_has_244 : decode cX12_has 244 = .ok (.goto 4, 3) := by decide +kernel
theorem dX12_has_247 : decode cX12_has 247 = .ok (.iconst 0, 1) := by decide +kernel
theorem dX12_has_248 : decode cX12_has 248 = .ok (.ireturn, 1) := by decide +kernel
theorem dX12_has_249 : decode cX12_has 249 = .ok (.iload_n 1, 1) := by decide +kernel
theorem dX12_has_250 : decode cX12_has 250 = .ok (.bipush 7, 2) := by decide +kernel
theorem dX12_has_252 : decode cX12_has 252 = .ok (.if_icmp .eq 9, 3) := by decide +kernel
theorem dX12_has_255 : decode cX12_has 255 = .ok (.iload_n 1, 1) := by decide +kernel
theorem dX12_has_256 : decode cX12_has 256 = .ok (.bipush 8, 2) := by decide +kernel
theorem dX12_has_258 : decode cX12_has 258 = .ok (.if_icmp .ne 7, 3) := by decide +kernel
theorem dX12_has_261 : decode cX12_has 261 = .ok (.iconst 1, 1) := by decide +kernel
theorem dX12_has_262 : decode cX12_has 262 = .ok (.goto 4, 3) := by decide +kernel
theorem dX12_has_265 : decode cX12_has 265 = .ok (.iconst 0, 1) := by decide +kernel
theorem dX12_has_266 : decode cX12_has 266 = .ok (.ireturn, 1) := by decide +kernel
theorem dX12_has_267 : decode cX12_has 267 = .ok (.iconst 0, 1) := by decide +kernel
theorem dX12_has_268 : decode cX12_has 268 = .ok (.ireturn, 1) := by decide +kernel
theorem dX12_send_0 : decode cX12_send 0 = .ok (.aload_n 0, 1) := by decide +kernel
theorem dX12_send_1 : decode cX12_send 1 = .ok (.getfield 171, 3) := by decide +kernel
theorem dX12_send_4 : decode cX12_send 4 = .ok (.bipush 60, 2) := by decide +kernel
theorem dX12_send_6 : decode cX12_send 6 = .ok (.if_icmp .ne 5, 3) := by decide +kernel
theorem dX12_send_9 : decode cX12_send 9 = .ok (.iconst 0, 1) := by decide +kernel
theorem dX12_send_10 : decode cX12_send 10 = .ok (.ireturn, 1) := by decide +kernel
theorem dX12_send_11 : decode cX12_send 11 = .ok (.bipush 64, 2) := by decide +kernel
theorem dX12_send_13 : decode cX12_send 13 = .ok (.aload_n 0, 1) := by decide +kernel
theorem dX12_send_14 : decode cX12_send 14 = .ok (.getfield 171, 3) := by decide +kernel
theorem dX12_send_17 : decode cX12_send 17 = .ok (.imul, 1) := by decide +kernel
theorem dX12_send_18 : decode cX12_send 18 = .ok (.istore 6, 2) := by decide +kernel
theorem dX12_send_20 : decode cX12_send 20 = .ok (.aload_n 0, 1) := by decide +kernel
theorem dX12_send_21 : decode cX12_send 21 = .ok (.getfield 39, 3) := by decide +kernel
theorem dX12_send_24 : decode cX12_send 24 = .ok (.iload 6, 2) := by decide +kernel
theorem dX12_send_26 : decode cX12_send 26 = .ok (.iload_n 1, 1) := by decide +kernel
theorem dX12_send_27 : decode cX12_send 27 = .ok (.iastore, 1) := by decide +kernel
theorem dX12_send_28 : decode cX12_send 28 = .ok (.iconst 1, 1) := by decide +kernel
theorem dX12_send_29 : decode cX12_send 29 = .ok (.istore 7, 2) := by decide +kernel
theorem dX12_send_31 : decode cX12_send 31 = .ok (.iconst 1, 1) := by decide +kernel
theorem dX12_send_32 : decode cX12_send 32 = .ok (.istore 8, 2) := by decide +kernel
theorem dX12_send_34 : decode cX12_send 34 = .ok (.iload 8, 2) := by decide +kernel
theorem dX12_send_36 : decode cX12_send 36 = .ok (.bipush 11, 2) := by decide +kernel
theorem dX12_send_38 : decode cX12_send 38 = .ok (.if_icmp .gt 114, 3) := by decide +kernel
theorem dX12_send_41 : decode cX12_send 41 = .ok (.iload_n 1, 1) := by decide +kernel
theorem dX12_send_42 : decode cX12_send 42 = .ok (.iload 8, 2) := by decide +kernel
theorem dX12_send_44 : decode cX12_send 44 = .ok (.invokestatic 174, 3) := by decide +kernel
theorem dX12_send_47 : decode cX12_send 47 = .ok (.ifCond .eq 99, 3) := by decide +kernel
theorem dX12_send_50 : decode cX12_send 50 = .ok (.iload 8, 2) := by decide +kernel
theorem dX12_send_52 : decode cX12_send 52 = .ok (.invokestatic 178, 3) := by decide +kernel
theorem dX12_send_55 : decode cX12_send 55 = .ok (.istore 9, 2) := by decide +kernel
theorem dX12_send_57 : decode cX12_send 57 = .ok (.aload_n 0, 1) := by decide +kernel
theorem dX12_send_58 : decode cX12_send 58 = .ok (.getfield 39, 3) := by decide +kernel
theorem dX12_send_61 : decode cX12_send 61 = .ok (.iload 6, 2) := by decide +kernel
theorem dX12_send_63 : decode cX12_send 63 = .ok (.iload 7, 2) := by decide +kernel
theorem dX12_send_65 : decode cX12_send 65 = .ok (.iadd, 1) := by decide +kernel
theorem dX12_send_66 : decode cX12_send 66 = .ok (.iload 8, 2) := by decide +kernel
theorem dX12_send_68 : decode cX12_send 68 = .ok (.iastore, 1) := by decide +kernel
theorem dX12_send_69 : decode cX12_send 69 = .ok (.aload_n 0, 1) := by decide +kernel
theorem dX12_send_70 : decode cX12_send 70 = .ok (.getfield 39, 3) := by decide +kernel
theorem dX12_send_73 : decode cX12_send 73 = .ok (.iload 6, 2) := by decide +kernel
theorem dX12_send_75 : decode cX12_send 75 = .ok (.iload 7, 2) := by decide +kernel
theorem dX12_send_77 : decode cX12_send 77 = .ok (.iadd, 1) := by decide +kernel
theorem dX12_send_78 : decode cX12_send 78 = .ok (.iconst 1, 1) := by decide +kernel
theorem dX12_send_79 : decode cX12_send 79 = .ok (.iadd, 1) := by decide +kernel
theorem dX12_send_80 : decode cX12_send 80 = .ok (.iload 9, 2) := by decide +kernel
theorem dX12_send_82 : decode cX12_send 82 = .ok (.iastore, 1) := by decide +kernel
theorem dX12_send_83 : decode cX12_send 83 = .ok (.iconst 0, 1) := by decide +kernel
theorem dX12_send_84 : decode cX12_send 84 = .ok (.istore 10, 2) := by decide +kernel
theorem dX12_send_86 : decode cX12_send 86 = .ok (.iload 10, 2) := by decide +kernel
theorem dX12_send_88 : decode cX12_send 88 = .ok (.iload 9, 2) := by decide +kernel
theorem dX12_send_90 : decode cX12_send 90 = .ok (.if_icmp .ge 47, 3) := by decide +kernel
theorem dX12_send_93 : decode cX12_send 93 = .ok (.aload_n 0, 1) := by decide +kernel
theorem dX12_send_94 : decode cX12_send 94 = .ok (.getfield 39, 3) := by decide +kernel
theorem dX12_send_97 : decode cX12_send 97 = .ok (.iload 6, 2) := by decide +kernel
theorem dX12_send_99 : decode cX12_send 99 = .ok (.iload 7, 2) := by decide +kernel
theorem dX12_send_101 : decode cX12_send 101 = .ok (.iadd, 1) := by decide +kernel
theorem dX12_send_102 : decode cX12_send 102 = .ok (.iconst 2, 1) := by decide +kernel
theorem dX12_send_103 : decode cX12_send 103 = .ok (.iadd, 1) := by decide +kernel
theorem dX12_send_104 : decode cX12_send 104 = .ok (.iload 10, 2) := by decide +kernel
theorem dX12_send_106 : decode cX12_send 106 = .ok (.iadd, 1) := by decide +kernel
theorem dX12_send_107 : decode cX12_send 107 = .ok (.aload_n 0, 1) := by decide +kernel
theorem dX12_send_108 : decode cX12_send 108 = .ok (.getfield 48, 3) := by decide +kernel
theorem dX12_send_111 : decode cX12_send 111 = .ok (.iload 8, 2) := by decide +kernel
theorem dX12_send_113 : decode cX12_send 113 = .ok (.laload, 1) := by decide +kernel
theorem dX12_send_114 : decode cX12_send 114 = .ok (.bipush 8, 2) := by decide +kernel
theorem dX12_send_116 : decode cX12_send 116 = .ok (.iload 9, 2) := by decide +kernel
theorem dX12_send_118 : decode cX12_send 118 = .ok (.iconst 1, 1) := by decide +kernel
theorem dX12_send_119 : decode cX12_send 119 = .ok (.isub, 1) := by decide +kernel
theorem dX12_send_120 : decode cX12_send 120 = .ok (.iload 10, 2) := by decide +kernel
theorem dX12_send_122 : decode cX12_send 122 = .ok (.isub, 1) := by decide +kernel
theorem dX12_send_123 : decode cX12_send 123 = .ok (.imul, 1) := by decide +kernel
theorem dX12_send_124 : decode cX12_send 124 = .ok (.lshr, 1) := by decide +kernel
theorem dX12_send_125 : decode cX12_send 125 = .ok (.l2i, 1) := by decide +kernel
theorem dX12_send_126 : decode cX12_send 126 = .ok (.sipush 255, 3) := by decide +kernel
theorem dX12_send_129 : decode cX12_send 129 = .ok (.iand, 1) := by decide +kernel
theorem dX12_send_130 : decode cX12_send 130 = .ok (.iastore, 1) := by decide +kernel
theorem dX12_send_131 : decode cX12_send 131 = .ok (.iinc 10 1, 3) := by decide +kernel
theorem dX12_send_134 : decode cX12_send 134 = .ok (.goto (-48), 3) := by decide +kernel
theorem dX12_send_137 : decode cX12_send 137 = .ok (.iload 7, 2) := by decide +kernel
theorem dX12_send_139 : decode cX12_send 139 = .ok (.iconst 2, 1) := by decide +kernel
theorem dX12_send_140 : decode cX12_send 140 = .ok (.iload 9, 2) := by decide +kernel
theorem dX12_send_142 : decode cX12_send 142 = .ok (.iadd, 1) := by decide +kernel
theorem dX12_send_143 : decode cX12_send 143 = .ok (.iadd, 1) := by decide +kernel
theorem dX12_send_144 : decode cX12_send 144 = .ok (.istore 7, 2) := by decide +kernel
theorem dX12_send_146 : decode cX12_send 146 = .ok (.iinc 8 1, 3) := by decide +kernel
theorem dX12_send_149 : decode cX12_send 149 = .ok (.goto (-115), 3) := by decide +kernel
theorem dX12_send_152 : decode cX12_send 152 = .ok (.aload_n 0, 1) := by decide +kernel
theorem dX12_send_153 : decode cX12_send 153 = .ok (.iload_n 2, 1) := by decide +kernel
theorem dX12_send_154 : decode cX12_send 154 = .ok (.iload_n 3, 1) := by decide +kernel
theorem dX12_send_155 : decode cX12_send 155 = .ok (.iload 4, 2) := by decide +kernel
theorem dX12_send_157 : decode cX12_send 157 = .ok (.iload 5, 2) := by decide +kernel
theorem dX12_send_159 : decode cX12_send 159 = .ok (.iload 7, 2) := by decide +kernel
theorem dX12_send_161 : decode cX12_send 161 = .ok (.invokevirtual 182, 3) := by decide +kernel
theorem dX12_send_164 : decode cX12_send 164 = .ok (.iconst 1, 1) := by decide +kernel
theorem dX12_send_165 : decode cX12_send 165 = .ok (.ireturn, 1) := by decide +kernel
theorem dX12_lie_0 : decode cX12_lie 0 = .ok (.aload_n 0, 1) := by decide +kernel
theorem dX12_lie_1 : decode cX12_lie 1 = .ok (.getfield 24, 3) := by decide +kernel
theorem dX12_lie_4 : decode cX12_lie 4 = .ok (.aload_n 0, 1) := by decide +kernel
theorem dX12_lie_5 : decode cX12_lie 5 = .ok (.getfield 171, 3) := by decide +kernel
theorem dX12_lie_8 : decode cX12_lie 8 = .ok (.iload_n 1, 1) := by decide +kernel
theorem dX12_lie_9 : decode cX12_lie 9 = .ok (.iastore, 1) := by decide +kernel
theorem dX12_lie_10 : decode cX12_lie 10 = .ok (.aload_n 0, 1) := by decide +kernel
theorem dX12_lie_11 : decode cX12_lie 11 = .ok (.getfield 27, 3) := by decide +kernel
theorem dX12_lie_14 : decode cX12_lie 14 = .ok (.aload_n 0, 1) := by decide +kernel
theorem dX12_lie_15 : decode cX12_lie 15 = .ok (.getfield 171, 3) := by decide +kernel
theorem dX12_lie_18 : decode cX12_lie 18 = .ok (.iload_n 2, 1) := by decide +kernel
theorem dX12_lie_19 : decode cX12_lie 19 = .ok (.iastore, 1) := by decide +kernel
theorem dX12_lie_20 : decode cX12_lie 20 = .ok (.aload_n 0, 1) := by decide +kernel
theorem dX12_lie_21 : decode cX12_lie 21 = .ok (.getfield 30, 3) := by decide +kernel
theorem dX12_lie_24 : decode cX12_lie 24 = .ok (.aload_n 0, 1) := by decide +kernel
theorem dX12_lie_25 : decode cX12_lie 25 = .ok (.getfield 171, 3) := by decide +kernel
theorem dX12_lie_28 : decode cX12_lie 28 = .ok (.iload_n 3, 1) := by decide +kernel
theorem dX12_lie_29 : decode cX12_lie 29 = .ok (.iastore, 1) := by decide +kernel
theorem dX12_lie_30 : decode cX12_lie 30 = .ok (.aload_n 0, 1) := by decide +kernel
theorem dX12_lie_31 : decode cX12_lie 31 = .ok (.getfield 33, 3) := by decide +kernel
theorem dX12_lie_34 : decode cX12_lie 34 = .ok (.aload_n 0, 1) := by decide +kernel
theorem dX12_lie_35 : decode cX12_lie 35 = .ok (.getfield 171, 3) := by decide +kernel
theorem dX12_lie_38 : decode cX12_lie 38 = .ok (.iload 4, 2) := by decide +kernel
theorem dX12_lie_40 : decode cX12_lie 40 = .ok (.iastore, 1) := by decide +kernel
theorem dX12_lie_41 : decode cX12_lie 41 = .ok (.aload_n 0, 1) := by decide +kernel
theorem dX12_lie_42 : decode cX12_lie 42 = .ok (.getfield 36, 3) := by decide +kernel
theorem dX12_lie_45 : decode cX12_lie 45 = .ok (.aload_n 0, 1) := by decide +kernel
theorem dX12_lie_46 : decode cX12_lie 46 = .ok (.getfield 171, 3) := by decide +kernel
theorem dX12_lie_49 : decode cX12_lie 49 = .ok (.iload 5, 2) := by decide +kernel
theorem dX12_lie_51 : decode cX12_lie 51 = .ok (.iastore, 1) := by decide +kernel
theorem dX12_lie_52 : decode cX12_lie 52 = .ok (.aload_n 0, 1) := by decide +kernel
theorem dX12_lie_53 : decode cX12_lie 53 = .ok (.dup, 1) := by decide +kernel
theorem dX12_lie_54 : decode cX12_lie 54 = .ok (.getfield 171, 3) := by decide +kernel
theorem dX12_lie_57 : decode cX12_lie 57 = .ok (.iconst 1, 1) := by decide +kernel
theorem dX12_lie_58 : decode cX12_lie 58 = .ok (.iadd, 1) := by decide +kernel
theorem dX12_lie_59 : decode cX12_lie 59 = .ok (.putfield 171, 3) := by decide +kernel
theorem dX12_lie_62 : decode cX12_lie 62 = .ok (.return_, 1) := by decide +kernel
end
section
theorem dX12_isMessage_0 : decode cX12_isMessage 0 = .ok (.iload_n 1, 1) := by decide +kernel
theorem dX12_isMessage_1 : decode cX12_isMessage 1 = .ok (.ifCond .lt 15, 3) := by decide +kernel
theorem dX12_isMessage_4 : decode cX12_isMessage 4 = .ok (.iload_n 1, 1) := by decide +kernel
theorem dX12_isMessage_5 : decode cX12_isMessage 5 = .ok (.aload_n 0, 1) := by decide +kernel
theorem dX12_isMessage_6 : decode cX12_isMessage 6 = .ok (.getfield 171, 3) := by decide +kernel
theorem dX12_isMessage_9 : decode cX12_isMessage 9 = .ok (.if_icmp .ge 7, 3) := by decide +kernel
theorem dX12_isMessage_12 : decode cX12_isMessage 12 = .ok (.iconst 1, 1) := by decide +kernel
theorem dX12_isMessage_13 : decode cX12_isMessage 13 = .ok (.goto 4, 3) := by decide +kernel
theorem dX12_isMessage_16 : decode cX12_isMessage 16 = .ok (.iconst 0, 1) := by decide +kernel
theorem dX12_isMessage_17 : decode cX12_isMessage 17 = .ok (.ireturn, 1) := by decide +kernel
theorem dX12_remove_0 : decode cX12_remove 0 = .ok (.aload_n 0, 1) := by decide +kernel
theorem dX12_remove_1 : decode cX12_remove 1 = .ok (.dup, 1) := by decide +kernel
theorem dX12_remove_2 : decode cX12_remove 2 = .ok (.getfield 171, 3) := by decide +kernel
theorem dX12_remove_5 : decode cX12_remove 5 = .ok (.iconst 1, 1) := by decide +kernel
theorem dX12_remove_6 : decode cX12_remove 6 = .ok (.isub, 1) := by decide +kernel
theorem dX12_remove_7 : decode cX12_remove 7 = .ok (.putfield 171, 3) := by decide +kernel
theorem dX12_remove_10 : decode cX12_remove 10 = .ok (.iload_n 1, 1) := by decide +kernel
theorem dX12_remove_11 : decode cX12_remove 11 = .ok (.istore_n 2, 1) := by decide +kernel
theorem dX12_remove_12 : decode cX12_remove 12 = .ok (.iload_n 2, 1) := by decide +kernel
theorem dX12_remove_13 : decode cX12_remove 13 = .ok (.aload_n 0, 1) := by decide +kernel
theorem dX12_remove_14 : decode cX12_remove 14 = .ok (.getfield 171, 3) := by decide +kernel
theorem dX12_remove_17 : decode cX12_remove 17 = .ok (.if_icmp .ge 117, 3) := by decide +kernel
theorem dX12_remove_20 : decode cX12_remove 20 = .ok (.aload_n 0, 1) := by decide +kernel
theorem dX12_remove_21 : decode cX12_remove 21 = .ok (.getfield 24, 3) := by decide +kernel
theorem dX12_remove_24 : decode cX12_remove 24 = .ok (.iload_n 2, 1) := by decide +kernel
theorem dX12_remove_25 : decode cX12_remove 25 = .ok (.aload_n 0, 1) := by decide +kernel
theorem dX12_remove_26 : decode cX12_remove 26 = .ok (.getfield 24, 3) := by decide +kernel
theorem dX12_remove_29 : decode cX12_remove 29 = .ok (.iload_n 2, 1) := by decide +kernel
theorem dX12_remove_30 : decode cX12_remove 30 = .ok (.iconst 1, 1) := by decide +kernel
theorem dX12_remove_31 : decode cX12_remove 31 = .ok (.iadd, 1) := by decide +kernel
theorem dX12_remove_32 : decode cX12_remove 32 = .ok (.iaload, 1) := by decide +kernel
theorem dX12_remove_33 : decode cX12_remove 33 = .ok (.iastore, 1) := by decide +kernel
theorem dX12_remove_34 : decode cX12_remove 34 = .ok (.aload_n 0, 1) := by decide +kernel
theorem dX12_remove_35 : decode cX12_remove 35 = .ok (.getfield 27, 3) := by decide +kernel
theorem dX12_remove_38 : decode cX12_remove 38 = .ok (.iload_n 2, 1) := by decide +kernel
theorem dX12_remove_39 : decode cX12_remove 39 = .ok (.aload_n 0, 1) := by decide +kernel
theorem dX12_remove_40 : decode cX12_remove 40 = .ok (.getfield 27, 3) := by decide +kernel
theorem dX12_remove_43 : decode cX12_remove 43 = .ok (.iload_n 2, 1) := by decide +kernel
theorem dX12_remove_44 : decode cX12_remove 44 = .ok (.iconst 1, 1) := by decide +kernel
theorem dX12_remove_45 : decode cX12_remove 45 = .ok (.iadd, 1) := by decide +kernel
theorem dX12_remove_46 : decode cX12_remove 46 = .ok (.iaload, 1) := by decide +kernel
theorem dX12_remove_47 : decode cX12_remove 47 = .ok (.iastore, 1) := by decide +kernel
theorem dX12_remove_48 : decode cX12_remove 48 = .ok (.aload_n 0, 1) := by decide +kernel
theorem dX12_remove_49 : decode cX12_remove 49 = .ok (.getfield 30, 3) := by decide +kernel
theorem dX12_remove_52 : decode cX12_remove 52 = .ok (.iload_n 2, 1) := by decide +kernel
theorem dX12_remove_53 : decode cX12_remove 53 = .ok (.aload_n 0, 1) := by decide +kernel
theorem dX12_remove_54 : decode cX12_remove 54 = .ok (.getfield 30, 3) := by decide +kernel
theorem dX12_remove_57 : decode cX12_remove 57 = .ok (.iload_n 2, 1) := by decide +kernel
theorem dX12_remove_58 : decode cX12_remove 58 = .ok (.iconst 1, 1) := by decide +kernel
theorem dX12_remove_59 : decode cX12_remove 59 = .ok (.iadd, 1) := by decide +kernel
theorem dX12_remove_60 : decode cX12_remove 60 = .ok (.iaload, 1) := by decide +kernel
theorem dX12_remove_61 : decode cX12_remove 61 = .ok (.iastore, 1) := by decide +kernel
theorem dX12_remove_62 : decode cX12_remove 62 = .ok (.aload_n 0, 1) := by decide +kernel
theorem dX12_remove_63 : decode cX12_remove 63 = .ok (.getfield 33, 3) := by decide +kernel
theorem dX12_remove_66 : decode cX12_remove 66 = .ok (.iload_n 2, 1) := by decide +kernel
theorem dX12_remove_67 : decode cX12_remove 67 = .ok (.aload_n 0, 1) := by decide +kernel
theorem dX12_remove_68 : decode cX12_remove 68 = .ok (.getfield 33, 3) := by decide +kernel
theorem dX12_remove_71 : decode cX12_remove 71 = .ok (.iload_n 2, 1) := by decide +kernel
theorem dX12_remove_72 : decode cX12_remove 72 = .ok (.iconst 1, 1) := by decide +kernel
theorem dX12_remove_73 : decode cX12_remove 73 = .ok (.iadd, 1) := by decide +kernel
theorem dX12_remove_74 : decode cX12_remove 74 = .ok (.iaload, 1) := by decide +kernel
theorem dX12_remove_75 : decode cX12_remove 75 = .ok (.iastore, 1) := by decide +kernel
theorem dX12_remove_76 : decode cX12_remove 76 = .ok (.aload_n 0, 1) := by decide +kernel
theorem dX12_remove_77 : decode cX12_remove 77 = .ok (.getfield 36, 3) := by decide +kernel
theorem dX12_remove_80 : decode cX12_remove 80 = .ok (.iload_n 2, 1) := by decide +kernel
theorem dX12_remove_81 : decode cX12_remove 81 = .ok (.aload_n 0, 1) := by decide +kernel
theorem dX12_remove_82 : decode cX12_remove 82 = .ok (.getfield 36, 3) := by decide +kernel
theorem dX12_remove_85 : decode cX12_remove 85 = .ok (.iload_n 2, 1) := by decide +kernel
theorem dX12_remove_86 : decode cX12_remove 86 = .ok (.iconst 1, 1) := by decide +kernel
theorem dX12_remove_87 : decode cX12_remove 87 = .ok (.iadd, 1) := by decide +kernel
theorem dX12_remove_88 : decode cX12_remove 88 = .ok (.iaload, 1) := by decide +kernel
theorem dX12_remove_89 : decode cX12_remove 89 = .ok (.iastore, 1) := by decide +kernel
theorem dX12_remove_90 : decode cX12_remove 90 = .ok (.iconst 0, 1) := by decide +kernel
theorem dX12_remove_91 : decode cX12_remove 91 = .ok (.istore_n 3, 1) := by decide +kernel
theorem dX12_remove_92 : decode cX12_remove 92 = .ok (.iload_n 3, 1) := by decide +kernel
theorem dX12_remove_93 : decode cX12_remove 93 = .ok (.bipush 64, 2) := by decide +kernel
theorem dX12_remove_95 : decode cX12_remove 95 = .ok (.if_icmp .ge 33, 3) := by decide +kernel
theorem dX12_remove_98 : decode cX12_remove 98 = .ok (.aload_n 0, 1) := by decide +kernel
theorem dX12_remove_99 : decode cX12_remove 99 = .ok (.getfield 39, 3) := by decide +kernel
theorem dX12_remove_102 : decode cX12_remove 102 = .ok (.bipush 64, 2) := by decide +kernel
theorem dX12_remove_104 : decode cX12_remove 104 = .ok (.iload_n 2, 1) := by decide +kernel
theorem dX12_remove_105 : decode cX12_remove 105 = .ok (.imul, 1) := by decide +kernel
theorem dX12_remove_106 : decode cX12_remove 106 = .ok (.iload_n 3, 1) := by decide +kernel
theorem dX12_remove_107 : decode cX12_remove 107 = .ok (.iadd, 1) := by decide +kernel
theorem dX12_remove_108 : decode cX12_remove 108 = .ok (.aload_n 0, 1) := by decide +kernel
theorem dX12_remove_109 : decode cX12_remove 109 = .ok (.getfield 39, 3) := by decide +kernel
theorem dX12_remove_112 : decode cX12_remove 112 = .ok (.bipush 64, 2) := by decide +kernel
theorem dX12_remove_114 : decode cX12_remove 114 = .ok (.iload_n 2, 1) := by decide +kernel
theorem dX12_remove_115 : decode cX12_remove 115 = .ok (.iconst 1, 1) := by decide +kernel
theorem dX12_remove_116 : decode cX12_remove 116 = .ok (.iadd, 1) := by decide +kernel
theorem dX12_remove_117 : decode cX12_remove 117 = .ok (.imul, 1) := by decide +kernel
theorem dX12_remove_118 : decode cX12_remove 118 = .ok (.iload_n 3, 1) := by decide +kernel
theorem dX12_remove_119 : decode cX12_remove 119 = .ok (.iadd, 1) := by decide +kernel
theorem dX12_remove_120 : decode cX12_remove 120 = .ok (.iaload, 1) := by decide +kernel
theorem dX12_remove_121 : decode cX12_remove 121 = .ok (.iastore, 1) := by decide +kernel
theorem dX12_remove_122 : decode cX12_remove 122 = .ok (.iinc 3 1, 3) := by decide +kernel
theorem dX12_remove_125 : decode cX12_remove 125 = .ok (.goto (-33), 3) := by decide +kernel
theorem dX12_remove_128 : decode cX12_remove 128 = .ok (.iinc 2 1, 3) := by decide +kernel
theorem dX12_remove_131 : decode cX12_remove 131 = .ok (.goto (-119), 3) := by decide +kernel
theorem dX12_remove_134 : decode cX12_remove 134 = .ok (.return_, 1) := by decide +kernel
theorem dX12_read_0 : decode cX12_read 0 = .ok (.aload_n 0, 1) := by decide +kernel
theorem dX12_read_1 : decode cX12_read 1 = .ok (.getfield 42, 3) := by decide +kernel
theorem dX12_read_4 : decode cX12_read 4 = .ok (.iconst 0, 1) := by decide +kernel
theorem dX12_read_5 : decode cX12_read 5 = .ok (.iaload, 1) := by decide +kernel
theorem dX12_read_6 : decode cX12_read 6 = .ok (.istore_n 1, 1) := by decide +kernel
theorem dX12_read_7 : decode cX12_read 7 = .ok (.iconst 1, 1) := by decide +kernel
theorem dX12_read_8 : decode cX12_read 8 = .ok (.istore_n 2, 1) := by decide +kernel
theorem dX12_read_9 : decode cX12_read 9 = .ok (.iload_n 1, 1) := by decide +kernel
theorem dX12_read_10 : decode cX12_read 10 = .ok (.iconst 1, 1) := by decide +kernel
theorem dX12_read_11 : decode cX12_read 11 = .ok (.if_icmp .lt 9, 3) := by decide +kernel
theorem dX12_read_14 : decode cX12_read 14 = .ok (.iload_n 1, 1) := by decide +kernel
theorem dX12_read_15 : decode cX12_read 15 = .ok (.bipush 11, 2) := by decide +kernel
theorem dX12_read_17 : decode cX12_read 17 = .ok (.if_icmp .le 5, 3) := by decide +kernel
theorem dX12_read_20 : decode cX12_read 20 = .ok (.iconst 0, 1) := by decide +kernel
theorem dX12_read_21 : decode cX12_read 21 = .ok (.ireturn, 1) := by decide +kernel
theorem dX12_read_22 : decode cX12_read 22 = .ok (.iconst 1, 1) := by decide +kernel
theorem dX12_read_23 : decode cX12_read 23 = .ok (.istore_n 3, 1) := by decide +kernel
theorem dX12_read_24 : decode cX12_read 24 = .ok (.iload_n 3, 1) := by decide +kernel
theorem dX12_read_25 : decode cX12_read 25 = .ok (.bipush 11, 2) := by decide +kernel
theorem dX12_read_27 : decode cX12_read 27 = .ok (.if_icmp .gt 116, 3) := by decide +kernel
theorem dX12_read_30 : decode cX12_read 30 = .ok (.iload_n 1, 1) := by decide +kernel
theorem dX12_read_31 : decode cX12_read 31 = .ok (.iload_n 3, 1) := by decide +kernel
theorem dX12_read_32 : decode cX12_read 32 = .ok (.invokestatic 174, 3) := by decide +kernel
theorem dX12_read_35 : decode cX12_read 35 = .ok (.ifCond .eq 102, 3) := by decide +kernel
theorem dX12_read_38 : decode cX12_read 38 = .ok (.iload_n 3, 1) := by decide +kernel
theorem dX12_read_39 : decode cX12_read 39 = .ok (.invokestatic 178, 3) := by decide +kernel
theorem dX12_read_42 : decode cX12_read 42 = .ok (.istore 4, 2) := by decide +kernel
theorem dX12_read_44 : decode cX12_read 44 = .ok (.iload_n 2, 1) := by decide +kernel
theorem dX12_read_45 : decode cX12_read 45 = .ok (.iconst 2, 1) := by decide +kernel
theorem dX12_read_46 : decode cX12_read 46 = .ok (.iadd, 1) := by decide +kernel
theorem dX12_read_47 : decode cX12_read 47 = .ok (.iload 4, 2) := by decide +kernel
theorem dX12_read_49 : decode cX12_read 49 = .ok (.iadd, 1) := by decide +kernel
theorem dX12_read_50 : decode cX12_read 50 = .ok (.aload_n 0, 1) := by decide +kernel
theorem dX12_read_51 : decode cX12_read 51 = .ok (.getfield 186, 3) := by decide +kernel
theorem dX12_read_54 : decode cX12_read 54 = .ok (.if_icmp .gt 26, 3) := by decide +kernel
theorem dX12_read_57 : decode cX12_read 57 = .ok (.aload_n 0, 1) := by decide +kernel
theorem dX12_read_58 : decode cX12_read 58 = .ok (.getfield 42, 3) := by decide +kernel
theorem dX12_read_61 : decode cX12_read 61 = .ok (.iload_n 2, 1) := by decide +kernel
theorem dX12_read_62 : decode cX12_read 62 = .ok (.iaload, 1) := by decide +kernel
theorem dX12_read_63 : decode cX12_read 63 = .ok (.iload_n 3, 1) := by decide +kernel
theorem dX12_read_64 : decode cX12_read 64 = .ok (.if_icmp .ne 16, 3) := by decide +kernel
theorem dX12_read_67 : decode cX12_read 67 = .ok (.aload_n 0, 1) := by decide +kernel
theorem dX12_read_68 : decode cX12_read 68 = .ok (.getfield 42, 3) := by decide +kernel
theorem dX12_read_71 : decode cX12_read 71 = .ok (.iload_n 2, 1) := by decide +kernel
theorem dX12_read_72 : decode cX12_read 72 = .ok (.iconst 1, 1) := by decide +kernel
theorem dX12_read_73 : decode cX12_read 73 = .ok (.iadd, 1) := by decide +kernel
theorem dX12_read_74 : decode cX12_read 74 = .ok (.iaload, 1) := by decide +kernel
theorem dX12_read_75 : decode cX12_read 75 = .ok (.iload 4, 2) := by decide +kernel
theorem dX12_read_77 : decode cX12_read 77 = .ok (.if_icmp .eq 5, 3) := by decide +kernel
theorem dX12_read_80 : decode cX12_read 80 = .ok (.iconst 0, 1) := by decide +kernel
theorem dX12_read_81 : decode cX12_read 81 = .ok (.ireturn, 1) := by decide +kernel
theorem dX12_read_82 : decode cX12_read 82 = .ok (.lconst 0, 1) := by decide +kernel
theorem dX12_read_83 : decode cX12_read 83 = .ok (.lstore 5, 2) := by decide +kernel
theorem dX12_read_85 : decode cX12_read 85 = .ok (.iconst 0, 1) := by decide +kernel
theorem dX12_read_86 : decode cX12_read 86 = .ok (.istore 7, 2) := by decide +kernel
theorem dX12_read_88 : decode cX12_read 88 = .ok (.iload 7, 2) := by decide +kernel
theorem dX12_read_90 : decode cX12_read 90 = .ok (.iload 4, 2) := by decide +kernel
theorem dX12_read_92 : decode cX12_read 92 = .ok (.if_icmp .ge 30, 3) := by decide +kernel
theorem dX12_read_95 : decode cX12_read 95 = .ok (.ldc2_w 189, 3) := by decide +kernel
theorem dX12_read_98 : decode cX12_read 98 = .ok (.lload 5, 2) := by decide +kernel
theorem dX12_read_100 : decode cX12_read 100 = .ok (.lmul, 1) := by decide +kernel
theorem dX12_read_101 : decode cX12_read 101 = .ok (.aload_n 0, 1) := by decide +kernel
theorem dX12_read_102 : decode cX12_read 102 = .ok (.getfield 42, 3) := by decide +kernel
theorem dX12_read_105 : decode cX12_read 105 = .ok (.iload_n 2, 1) := by decide +kernel
theorem dX12_read_106 : decode cX12_read 106 = .ok (.iconst 2, 1) := by decide +kernel
theorem dX12_read_107 : decode cX12_read 107 = .ok (.iadd, 1) := by decide +kernel
theorem dX12_read_108 : decode cX12_read 108 = .ok (.iload 7, 2) := by decide +kernel
theorem dX12_read_110 : decode cX12_read 110 = .ok (.iadd, 1) := by decide +kernel
theorem dX12_read_111 : decode cX12_read 111 = .ok (.iaload, 1) := by decide +kernel
theorem dX12_read_112 : decode cX12_read 112 = .ok (.i2l, 1) := by decide +kernel
theorem dX12_read_113 : decode cX12_read 113 = .ok (.ladd, 1) := by decide +kernel
theorem dX12_read_114 : decode cX12_read 114 = .ok (.lstore 5, 2) := by decide +kernel
theorem dX12_read_116 : decode cX12_read 116 = .ok (.iinc 7 1, 3) := by decide +kernel
theorem dX12_read_119 : decode cX12_read 119 = .ok (.goto (-31), 3) := by decide +kernel
theorem dX12_read_122 : decode cX12_read 122 = .ok (.aload_n 0, 1) := by decide +kernel
theorem dX12_read_123 : decode cX12_read 123 = .ok (.getfield 45, 3) := by decide +kernel
theorem dX12_read_126 : decode cX12_read 126 = .ok (.iload_n 3, 1) := by decide +kernel
theorem dX12_read_127 : decode cX12_read 127 = .ok (.lload 5, 2) := by decide +kernel
theorem dX12_read_129 : decode cX12_read 129 = .ok (.lastore, 1) := by decide +kernel
theorem dX12_read_130 : decode cX12_read 130 = .ok (.iload_n 2, 1) := by decide +kernel
theorem dX12_read_131 : decode cX12_read 131 = .ok (.iconst 2, 1) := by decide +kernel
theorem dX12_read_132 : decode cX12_read 132 = .ok (.iload 4, 2) := by decide +kernel
theorem dX12_read_134 : decode cX12_read 134 = .ok (.iadd, 1) := by decide +kernel
theorem dX12_read_135 : decode cX12_read 135 = .ok (.iadd, 1) := by decide +kernel
theorem dX12_read_136 : decode cX12_read 136 = .ok (.istore_n 2, 1) := by decide +kernel
theorem dX12_read_137 : decode cX12_read 137 = .ok (.iinc 3 1, 3) := by decide +kernel
theorem dX12_read_140 : decode cX12_read 140 = .ok (.goto (-116), 3) := by decide +kernel
theorem dX12_read_143 : decode cX12_read 143 = .ok (.iload_n 2, 1) := by decide +kernel
theorem dX12_read_144 : decode cX12_read 144 = .ok (.aload_n 0, 1) := by decide +kernel
theorem dX12_read_145 : decode cX12_read 145 = .ok (.getfield 186, 3) := by decide +kernel
theorem dX12_read_148 : decode cX12_read 148 = .ok (.if_icmp .ne 7, 3) := by decide +kernel
theorem dX12_read_151 : decode cX12_read 151 = .ok (.iload_n 1, 1) := by decide +kernel
theorem dX12_read_152 : decode cX12_read 152 = .ok (.goto 4, 3) := by decide +kernel
theorem dX12_read_155 : decode cX12_read 155 = .ok (.iconst 0, 1) := by decide +kernel
theorem dX12_read_156 : decode cX12_read 156 = .ok (.ireturn, 1) := by decide +kernel
theorem dX12_deliver_0 : decode cX12_deliver 0 = .ok (.aload_n 0, 1) := by decide +kernel
theorem dX12_deliver_1 : decode cX12_deliver 1 = .ok (.iload_n 1, 1) := by decide +kernel
theorem dX12_deliver_2 : decode cX12_deliver 2 = .ok (.invokevirtual 191, 3) := by decide +kernel
theorem dX12_deliver_5 : decode cX12_deliver 5 = .ok (.ifCond .ne 5, 3) := by decide +kernel
theorem dX12_deliver_8 : decode cX12_deliver 8 = .ok (.iconst (-1), 1) := by decide +kernel
theorem dX12_deliver_9 : decode cX12_deliver 9 = .ok (.ireturn, 1) := by decide +kernel
theorem dX12_deliver_10 : decode cX12_deliver 10 = .ok (.aload_n 0, 1) := by decide +kernel
theorem dX12_deliver_11 : decode cX12_deliver 11 = .ok (.getfield 30, 3) := by decide +kernel
theorem dX12_deliver_14 : decode cX12_deliver 14 = .ok (.iload_n 1, 1) := by decide +kernel
theorem dX12_deliver_15 : decode cX12_deliver 15 = .ok (.iaload, 1) := by decide +kernel
theorem dX12_deliver_16 : decode cX12_deliver 16 = .ok (.istore_n 2, 1) := by decide +kernel
theorem dX12_deliver_17 : decode cX12_deliver 17 = .ok (.aload_n 0, 1) := by decide +kernel
theorem dX12_deliver_18 : decode cX12_deliver 18 = .ok (.getfield 33, 3) := by decide +kernel
theorem dX12_deliver_21 : decode cX12_deliver 21 = .ok (.iload_n 1, 1) := by decide +kernel
theorem dX12_deliver_22 : decode cX12_deliver 22 = .ok (.iaload, 1) := by decide +kernel
theorem dX12_deliver_23 : decode cX12_deliver 23 = .ok (.istore_n 3, 1) := by decide +kernel
theorem dX12_deliver_24 : decode cX12_deliver 24 = .ok (.aload_n 0, 1) := by decide +kernel
theorem dX12_deliver_25 : decode cX12_deliver 25 = .ok (.aload_n 0, 1) := by decide +kernel
theorem dX12_deliver_26 : decode cX12_deliver 26 = .ok (.getfield 24, 3) := by decide +kernel
theorem dX12_deliver_29 : decode cX12_deliver 29 = .ok (.iload_n 1, 1) := by decide +kernel
theorem dX12_deliver_30 : decode cX12_deliver 30 = .ok (.iaload, 1) := by decide +kernel
theorem dX12_deliver_31 : decode cX12_deliver 31 = .ok (.putfield 195, 3) := by decide +kernel
theorem dX12_deliver_34 : decode cX12_deliver 34 = .ok (.aload_n 0, 1) := by decide +kernel
theorem dX12_deliver_35 : decode cX12_deliver 35 = .ok (.aload_n 0, 1) := by decide +kernel
theorem dX12_deliver_36 : decode cX12_deliver 36 = .ok (.getfield 27, 3) := by decide +kernel
theorem dX12_deliver_39 : decode cX12_deliver 39 = .ok (.iload_n 1, 1) := by decide +kernel
theorem dX12_deliver_40 : decode cX12_deliver 40 = .ok (.iaload, 1) := by decide +kernel
theorem dX12_deliver_41 : decode cX12_deliver 41 = .ok (.putfield 198, 3) := by decide +kernel
theorem dX12_deliver_44 : decode cX12_deliver 44 = .ok (.aload_n 0, 1) := by decide +kernel
theorem dX12_deliver_45 : decode cX12_deliver 45 = .ok (.aload_n 0, 1) := by decide +kernel
theorem dX12_deliver_46 : decode cX12_deliver 46 = .ok (.getfield 36, 3) := by decide +kernel
theorem dX12_deliver_49 : decode cX12_deliver 49 = .ok (.iload_n 1, 1) := by decide +kernel
theorem dX12_deliver_50 : decode cX12_deliver 50 = .ok (.iaload, 1) := by decide +kernel
theorem dX12_deliver_51 : decode cX12_deliver 51 = .ok (.putfield 186, 3) := by decide +kernel
theorem dX12_deliver_54 : decode cX12_deliver 54 = .ok (.iconst 0, 1) := by decide +kernel
theorem dX12_deliver_55 : decode cX12_deliver 55 = .ok (.istore 4, 2) := by decide +kernel
theorem dX12_deliver_57 : decode cX12_deliver 57 = .ok (.iload 4, 2) := by decide +kernel
theorem dX12_deliver_59 : decode cX12_deliver 59 = .ok (.bipush 64, 2) := by decide +kernel
theorem dX12_deliver_61 : decode cX12_deliver 61 = .ok (.if_icmp .ge 28, 3) := by decide +kernel
theorem dX12_deliver_64 : decode cX12_deliver 64 = .ok (.aload_n 0, 1) := by decide +kernel
theorem dX12_deliver_65 : decode cX12_deliver 65 = .ok (.getfield 42, 3) := by decide +kernel
theorem dX12_deliver_68 : decode cX12_deliver 68 = .ok (.iload 4, 2) := by decide +kernel
theorem dX12_deliver_70 : decode cX12_deliver 70 = .ok (.aload_n 0, 1) := by decide +kernel
theorem dX12_deliver_71 : decode cX12_deliver 71 = .ok (.getfield 39, 3) := by decide +kernel
theorem dX12_deliver_74 : decode cX12_deliver 74 = .ok (.bipush 64, 2) := by decide +kernel
theorem dX12_deliver_76 : decode cX12_deliver 76 = .ok (.iload_n 1, 1) := by decide +kernel
theorem dX12_deliver_77 : decode cX12_deliver 77 = .ok (.imul, 1) := by decide +kernel
theorem dX12_deliver_78 : decode cX12_deliver 78 = .ok (.iload 4, 2) := by decide +kernel
theorem dX12_deliver_80 : decode cX12_deliver 80 = .ok (.iadd, 1) := by decide +kernel
theorem dX12_deliver_81 : decode cX12_deliver 81 = .ok (.iaload, 1) := by decide +kernel
theorem dX12_deliver_82 : decode cX12_deliver 82 = .ok (.iastore, 1) := by decide +kernel
theorem dX12_deliver_83 : decode cX12_deliver 83 = .ok (.iinc 4 1, 3) := by decide +kernel
theorem dX12_deliver_86 : decode cX12_deliver 86 = .ok (.goto (-29), 3) := by decide +kernel
theorem dX12_deliver_89 : decode cX12_deliver 89 = .ok (.aload_n 0, 1) := by decide +kernel
theorem dX12_deliver_90 : decode cX12_deliver 90 = .ok (.iload_n 1, 1) := by decide +kernel
theorem dX12_deliver_91 : decode cX12_deliver 91 = .ok (.invokevirtual 201, 3) := by decide +kernel
theorem dX12_deliver_94 : decode cX12_deliver 94 = .ok (.aload_n 0, 1) := by decide +kernel
theorem dX12_deliver_95 : decode cX12_deliver 95 = .ok (.invokevirtual 205, 3) := by decide +kernel
theorem dX12_deliver_98 : decode cX12_deliver 98 = .ok (.istore 4, 2) := by decide +kernel
theorem dX12_deliver_100 : decode cX12_deliver 100 = .ok (.iload 4, 2) := by decide +kernel
theorem dX12_deliver_102 : decode cX12_deliver 102 = .ok (.ifCond .eq 51, 3) := by decide +kernel
theorem dX12_deliver_105 : decode cX12_deliver 105 = .ok (.iload_n 2, 1) := by decide +kernel
theorem dX12_deliver_106 : decode cX12_deliver 106 = .ok (.ifCond .ne 16, 3) := by decide +kernel
theorem dX12_deliver_109 : decode cX12_deliver 109 = .ok (.aload_n 0, 1) := by decide +kernel
theorem dX12_deliver_110 : decode cX12_deliver 110 = .ok (.iload_n 3, 1) := by decide +kernel
theorem dX12_deliver_111 : decode cX12_deliver 111 = .ok (.iload 4, 2) := by decide +kernel
theorem dX12_deliver_113 : decode cX12_deliver 113 = .ok (.invokevirtual 209, 3) := by decide +kernel
theorem dX12_deliver_116 : decode cX12_deliver 116 = .ok (.ifCond .eq 37, 3) := by decide +kernel
theorem dX12_deliver_119 : decode cX12_deliver 119 = .ok (.goto 30, 3) := by decide +kernel
theorem dX12_deliver_122 : decode cX12_deliver 122 = .ok (.iload_n 2, 1) := by decide +kernel
theorem dX12_deliver_123 : decode cX12_deliver 123 = .ok (.iconst 1, 1) := by decide +kernel
theorem dX12_deliver_124 : decode cX12_deliver 124 = .ok (.if_icmp .ne 16, 3) := by decide +kernel
theorem dX12_deliver_127 : decode cX12_deliver 127 = .ok (.aload_n 0, 1) := by decide +kernel
theorem dX12_deliver_128 : decode cX12_deliver 128 = .ok (.iload_n 3, 1) := by decide +kernel
theorem dX12_deliver_129 : decode cX12_deliver 129 = .ok (.iload 4, 2) := by decide +kernel
theorem dX12_deliver_131 : decode cX12_deliver 131 = .ok (.invokevirtual 211, 3) := by decide +kernel
theorem dX12_deliver_134 : decode cX12_deliver 134 = .ok (.ifCond .eq 19, 3) := by decide +kernel
theorem dX12_deliver_137 : decode cX12_deliver 137 = .ok (.goto 12, 3) := by decide +kernel
theorem dX12_deliver_140 : decode cX12_deliver 140 = .ok (.aload_n 0, 1) := by decide +kernel
theorem dX12_deliver_141 : decode cX12_deliver 141 = .ok (.iload 4, 2) := by decide +kernel
theorem dX12_deliver_143 : decode cX12_deliver 143 = .ok (.invokevirtual 214, 3) := by decide +kernel
theorem dX12_deliver_146 : decode cX12_deliver 146 = .ok (.ifCond .eq 7, 3) := by decide +kernel
theorem dX12_deliver_149 : decode cX12_deliver 149 = .ok (.iconst 1, 1) := by decide +kernel
theorem dX12_deliver_150 : decode cX12_deliver 150 = .ok (.goto 4, 3) := by decide +kernel
theorem dX12_deliver_153 : decode cX12_deliver 153 = .ok (.iconst 0, 1) := by decide +kernel
theorem dX12_deliver_154 : decode cX12_deliver 154 = .ok (.istore 5, 2) := by decide +kernel
theorem dX12_deliver_156 : decode cX12_deliver 156 = .ok (.iload 5, 2) := by decide +kernel
theorem dX12_deliver_158 : decode cX12_deliver 158 = .ok (.ifCond .eq 7, 3) := by decide +kernel
theorem dX12_deliver_161 : decode cX12_deliver 161 = .ok (.iconst 1, 1) := by decide +kernel
theorem dX12_deliver_162 : decode cX12_deliver 162 = .ok (.goto 4, 3) := by decide +kernel
theorem dX12_deliver_165 : decode cX12_deliver 165 = .ok (.iconst 0, 1) := by decide +kernel
theorem dX12_deliver_166 : decode cX12_deliver 166 = .ok (.ireturn, 1) := by decide +kernel
theorem dX12_writes_0 : decode cX12_writes 0 = .ok (.aload_n 0, 1) := by decide +kernel
theorem dX12_writes_1 : decode cX12_writes 1 = .ok (.getfield 93, 3) := by decide +kernel
theorem dX12_writes_4 : decode cX12_writes 4 = .ok (.iload_n 1, 1) := by decide +kernel
theorem dX12_writes_5 : decode cX12_writes 5 = .ok (.iaload, 1) := by decide +kernel
theorem dX12_writes_6 : decode cX12_writes 6 = .ok (.ifCond .ne 47, 3) := by decide +kernel
theorem dX12_writes_9 : decode cX12_writes 9 = .ok (.aload_n 0, 1) := by decide +kernel
theorem dX12_writes_10 : decode cX12_writes 10 = .ok (.getfield 93, 3) := by decide +kernel
theorem dX12_writes_13 : decode cX12_writes 13 = .ok (.iload_n 1, 1) := by decide +kernel
theorem dX12_writes_14 : decode cX12_writes 14 = .ok (.iconst (-1), 1) := by decide +kernel
theorem dX12_writes_15 : decode cX12_writes 15 = .ok (.iastore, 1) := by decide +kernel
theorem dX12_writes_16 : decode cX12_writes 16 = .ok (.aload_n 0, 1) := by decide +kernel
theorem dX12_writes_17 : decode cX12_writes 17 = .ok (.getfield 78, 3) := by decide +kernel
theorem dX12_writes_20 : decode cX12_writes 20 = .ok (.iload_n 1, 1) := by decide +kernel
theorem dX12_writes_21 : decode cX12_writes 21 = .ok (.iconst 0, 1) := by decide +kernel
theorem dX12_writes_22 : decode cX12_writes 22 = .ok (.iastore, 1) := by decide +kernel
theorem dX12_writes_23 : decode cX12_writes 23 = .ok (.aload_n 0, 1) := by decide +kernel
theorem dX12_writes_24 : decode cX12_writes 24 = .ok (.getfield 81, 3) := by decide +kernel
theorem dX12_writes_27 : decode cX12_writes 27 = .ok (.iload_n 1, 1) := by decide +kernel
theorem dX12_writes_28 : decode cX12_writes 28 = .ok (.iconst 0, 1) := by decide +kernel
theorem dX12_writes_29 : decode cX12_writes 29 = .ok (.iastore, 1) := by decide +kernel
theorem dX12_writes_30 : decode cX12_writes 30 = .ok (.aload_n 0, 1) := by decide +kernel
theorem dX12_writes_31 : decode cX12_writes 31 = .ok (.getfield 84, 3) := by decide +kernel
theorem dX12_writes_34 : decode cX12_writes 34 = .ok (.iload_n 1, 1) := by decide +kernel
theorem dX12_writes_35 : decode cX12_writes 35 = .ok (.lconst 0, 1) := by decide +kernel
theorem dX12_writes_36 : decode cX12_writes 36 = .ok (.lastore, 1) := by decide +kernel
theorem dX12_writes_37 : decode cX12_writes 37 = .ok (.aload_n 0, 1) := by decide +kernel
theorem dX12_writes_38 : decode cX12_writes 38 = .ok (.getfield 87, 3) := by decide +kernel
theorem dX12_writes_41 : decode cX12_writes 41 = .ok (.iload_n 1, 1) := by decide +kernel
theorem dX12_writes_42 : decode cX12_writes 42 = .ok (.lconst 0, 1) := by decide +kernel
theorem dX12_writes_43 : decode cX12_writes 43 = .ok (.lastore, 1) := by decide +kernel
theorem dX12_writes_44 : decode cX12_writes 44 = .ok (.aload_n 0, 1) := by decide +kernel
theorem dX12_writes_45 : decode cX12_writes 45 = .ok (.getfield 90, 3) := by decide +kernel
theorem dX12_writes_48 : decode cX12_writes 48 = .ok (.iload_n 1, 1) := by decide +kernel
theorem dX12_writes_49 : decode cX12_writes 49 = .ok (.lconst 0, 1) := by decide +kernel
theorem dX12_writes_50 : decode cX12_writes 50 = .ok (.lastore, 1) := by decide +kernel
theorem dX12_writes_51 : decode cX12_writes 51 = .ok (.iconst 0, 1) := by decide +kernel
theorem dX12_writes_52 : decode cX12_writes 52 = .ok (.ireturn, 1) := by decide +kernel
theorem dX12_writes_53 : decode cX12_writes 53 = .ok (.aload_n 0, 1) := by decide +kernel
theorem dX12_writes_54 : decode cX12_writes 54 = .ok (.getfield 93, 3) := by decide +kernel
theorem dX12_writes_57 : decode cX12_writes 57 = .ok (.iload_n 1, 1) := by decide +kernel
theorem dX12_writes_58 : decode cX12_writes 58 = .ok (.aload_n 0, 1) := by decide +kernel
theorem dX12_writes_59 : decode cX12_writes 59 = .ok (.getfield 93, 3) := by decide +kernel
theorem dX12_writes_62 : decode cX12_writes 62 = .ok (.iload_n 1, 1) := by decide +kernel
theorem dX12_writes_63 : decode cX12_writes 63 = .ok (.iaload, 1) := by decide +kernel
theorem dX12_writes_64 : decode cX12_writes 64 = .ok (.ifCond .le 14, 3) := by decide +kernel
theorem dX12_writes_67 : decode cX12_writes 67 = .ok (.aload_n 0, 1) := by decide +kernel
theorem dX12_writes_68 : decode cX12_writes 68 = .ok (.getfield 93, 3) := by decide +kernel
theorem dX12_writes_71 : decode cX12_writes 71 = .ok (.iload_n 1, 1) := by decide +kernel
theorem dX12_writes_72 : decode cX12_writes 72 = .ok (.iaload, 1) := by decide +kernel
theorem dX12_writes_73 : decode cX12_writes 73 = .ok (.iconst 1, 1) := by decide +kernel
theorem dX12_writes_74 : decode cX12_writes 74 = .ok (.isub, 1) := by decide +kernel
theorem dX12_writes_75 : decode cX12_writes 75 = .ok (.goto 9, 3) := by decide +kernel
theorem dX12_writes_78 : decode cX12_writes 78 = .ok (.aload_n 0, 1) := by decide +kernel
theorem dX12_writes_79 : decode cX12_writes 79 = .ok (.getfield 93, 3) := by decide +kernel
theorem dX12_writes_82 : decode cX12_writes 82 = .ok (.iload_n 1, 1) := by decide +kernel
theorem dX12_writes_83 : decode cX12_writes 83 = .ok (.iaload, 1) := by decide +kernel
theorem dX12_writes_84 : decode cX12_writes 84 = .ok (.iastore, 1) := by decide +kernel
theorem dX12_writes_85 : decode cX12_writes 85 = .ok (.iconst 1, 1) := by decide +kernel
theorem dX12_writes_86 : decode cX12_writes 86 = .ok (.ireturn, 1) := by decide +kernel
theorem dX12_reply_0 : decode cX12_reply 0 = .ok (.aload_n 0, 1) := by decide +kernel
theorem dX12_reply_1 : decode cX12_reply 1 = .ok (.iload_n 1, 1) := by decide +kernel
theorem dX12_reply_2 : decode cX12_reply 2 = .ok (.iconst 0, 1) := by decide +kernel
theorem dX12_reply_3 : decode cX12_reply 3 = .ok (.iload_n 2, 1) := by decide +kernel
theorem dX12_reply_4 : decode cX12_reply 4 = .ok (.aload_n 0, 1) := by decide +kernel
theorem dX12_reply_5 : decode cX12_reply 5 = .ok (.getfield 195, 3) := by decide +kernel
theorem dX12_reply_8 : decode cX12_reply 8 = .ok (.aload_n 0, 1) := by decide +kernel
theorem dX12_reply_9 : decode cX12_reply 9 = .ok (.getfield 198, 3) := by decide +kernel
theorem dX12_reply_12 : decode cX12_reply 12 = .ok (.invokevirtual 217, 3) := by decide +kernel
theorem dX12_reply_15 : decode cX12_reply 15 = .ok (.pop, 1) := by decide +kernel
theorem dX12_reply_16 : decode cX12_reply 16 = .ok (.return_, 1) := by decide +kernel
theorem dX12_toCard_0 : decode cX12_toCard 0 = .ok (.iload_n 2, 1) := by decide +kernel
theorem dX12_toCard_1 : decode cX12_toCard 1 = .ok (.iconst 1, 1) := by decide +kernel
theorem dX12_toCard_2 : decode cX12_toCard 2 = .ok (.if_icmp .ne 124, 3) := by decide +kernel
theorem dX12_toCard_5 : decode cX12_toCard 5 = .ok (.aload_n 0, 1) := by decide +kernel
theorem dX12_toCard_6 : decode cX12_toCard 6 = .ok (.getfield 69, 3) := by decide +kernel
theorem dX12_toCard_9 : decode cX12_toCard 9 = .ok (.iload_n 1, 1) := by decide +kernel
theorem dX12_toCard_10 : decode cX12_toCard 10 = .ok (.iaload, 1) := by decide +kernel
theorem dX12_toCard_11 : decode cX12_toCard 11 = .ok (.ldc 221, 2) := by decide +kernel
theorem dX12_toCard_13 : decode cX12_toCard 13 = .ok (.if_icmp .ge 113, 3) := by decide +kernel
theorem dX12_toCard_16 : decode cX12_toCard 16 = .ok (.aload_n 0, 1) := by decide +kernel
theorem dX12_toCard_17 : decode cX12_toCard 17 = .ok (.iload_n 1, 1) := by decide +kernel
theorem dX12_toCard_18 : decode cX12_toCard 18 = .ok (.invokevirtual 222, 3) := by decide +kernel
theorem dX12_toCard_21 : decode cX12_toCard 21 = .ok (.ifCond .eq 103, 3) := by decide +kernel
theorem dX12_toCard_24 : decode cX12_toCard 24 = .ok (.aload_n 0, 1) := by decide +kernel
theorem dX12_toCard_25 : decode cX12_toCard 25 = .ok (.getfield 69, 3) := by decide +kernel
theorem dX12_toCard_28 : decode cX12_toCard 28 = .ok (.iload_n 1, 1) := by decide +kernel
theorem dX12_toCard_29 : decode cX12_toCard 29 = .ok (.dup2, 1) := by decide +kernel
theorem dX12_toCard_30 : decode cX12_toCard 30 = .ok (.iaload, 1) := by decide +kernel
theorem dX12_toCard_31 : decode cX12_toCard 31 = .ok (.iconst 1, 1) := by decide +kernel
theorem dX12_toCard_32 : decode cX12_toCard 32 = .ok (.iadd, 1) := by decide +kernel
theorem dX12_toCard_33 : decode cX12_toCard 33 = .ok (.iastore, 1) := by decide +kernel
theorem dX12_toCard_34 : decode cX12_toCard 34 = .ok (.aload_n 0, 1) := by decide +kernel
theorem dX12_toCard_35 : decode cX12_toCard 35 = .ok (.getfield 78, 3) := by decide +kernel
theorem dX12_toCard_38 : decode cX12_toCard 38 = .ok (.iload_n 1, 1) := by decide +kernel
theorem dX12_toCard_39 : decode cX12_toCard 39 = .ok (.iconst 1, 1) := by decide +kernel
theorem dX12_toCard_40 : decode cX12_toCard 40 = .ok (.iastore, 1) := by decide +kernel
theorem dX12_toCard_41 : decode cX12_toCard 41 = .ok (.aload_n 0, 1) := by decide +kernel
theorem dX12_toCard_42 : decode cX12_toCard 42 = .ok (.getfield 81, 3) := by decide +kernel
theorem dX12_toCard_45 : decode cX12_toCard 45 = .ok (.iload_n 1, 1) := by decide +kernel
theorem dX12_toCard_46 : decode cX12_toCard 46 = .ok (.iconst 0, 1) := by decide +kernel
theorem dX12_toCard_47 : decode cX12_toCard 47 = .ok (.iastore, 1) := by decide +kernel
theorem dX12_toCard_48 : decode cX12_toCard 48 = .ok (.aload_n 0, 1) := by decide +kernel
theorem dX12_toCard_49 : decode cX12_toCard 49 = .ok (.ldc2_w 225, 3) := by decide +kernel
theorem dX12_toCard_52 : decode cX12_toCard 52 = .ok (.invokevirtual 227, 3) := by decide +kernel
theorem dX12_toCard_55 : decode cX12_toCard 55 = .ok (.aload_n 0, 1) := by decide +kernel
theorem dX12_toCard_56 : decode cX12_toCard 56 = .ok (.iload_n 1, 1) := by decide +kernel
theorem dX12_toCard_57 : decode cX12_toCard 57 = .ok (.i2l, 1) := by decide +kernel
theorem dX12_toCard_58 : decode cX12_toCard 58 = .ok (.invokevirtual 231, 3) := by decide +kernel
theorem dX12_toCard_61 : decode cX12_toCard 61 = .ok (.aload_n 0, 1) := by decide +kernel
theorem dX12_toCard_62 : decode cX12_toCard 62 = .ok (.aload_n 0, 1) := by decide +kernel
theorem dX12_toCard_63 : decode cX12_toCard 63 = .ok (.getfield 69, 3) := by decide +kernel
theorem dX12_toCard_66 : decode cX12_toCard 66 = .ok (.iload_n 1, 1) := by decide +kernel
theorem dX12_toCard_67 : decode cX12_toCard 67 = .ok (.iaload, 1) := by decide +kernel
theorem dX12_toCard_68 : decode cX12_toCard 68 = .ok (.i2l, 1) := by decide +kernel
theorem dX12_toCard_69 : decode cX12_toCard 69 = .ok (.invokevirtual 231, 3) := by decide +kernel
theorem dX12_toCard_72 : decode cX12_toCard 72 = .ok (.aload_n 0, 1) := by decide +kernel
theorem dX12_toCard_73 : decode cX12_toCard 73 = .ok (.aload_n 0, 1) := by decide +kernel
theorem dX12_toCard_74 : decode cX12_toCard 74 = .ok (.getfield 45, 3) := by decide +kernel
theorem dX12_toCard_77 : decode cX12_toCard 77 = .ok (.iconst 4, 1) := by decide +kernel
theorem dX12_toCard_78 : decode cX12_toCard 78 = .ok (.laload, 1) := by decide +kernel
theorem dX12_toCard_79 : decode cX12_toCard 79 = .ok (.invokevirtual 231, 3) := by decide +kernel
theorem dX12_toCard_82 : decode cX12_toCard 82 = .ok (.aload_n 0, 1) := by decide +kernel
theorem dX12_toCard_83 : decode cX12_toCard 83 = .ok (.getfield 48, 3) := by decide +kernel
theorem dX12_toCard_86 : decode cX12_toCard 86 = .ok (.iconst 1, 1) := by decide +kernel
theorem dX12_toCard_87 : decode cX12_toCard 87 = .ok (.iload_n 1, 1) := by decide +kernel
theorem dX12_toCard_88 : decode cX12_toCard 88 = .ok (.i2l, 1) := by decide +kernel
theorem dX12_toCard_89 : decode cX12_toCard 89 = .ok (.lastore, 1) := by decide +kernel
theorem dX12_toCard_90 : decode cX12_toCard 90 = .ok (.aload_n 0, 1) := by decide +kernel
theorem dX12_toCard_91 : decode cX12_toCard 91 = .ok (.getfield 48, 3) := by decide +kernel
theorem dX12_toCard_94 : decode cX12_toCard 94 = .ok (.iconst 2, 1) := by decide +kernel
theorem dX12_toCard_95 : decode cX12_toCard 95 = .ok (.aload_n 0, 1) := by decide +kernel
theorem dX12_toCard_96 : decode cX12_toCard 96 = .ok (.getfield 69, 3) := by decide +kernel
theorem dX12_toCard_99 : decode cX12_toCard 99 = .ok (.iload_n 1, 1) := by decide +kernel
theorem dX12_toCard_100 : decode cX12_toCard 100 = .ok (.iaload, 1) := by decide +kernel
theorem dX12_toCard_101 : decode cX12_toCard 101 = .ok (.i2l, 1) := by decide +kernel
theorem dX12_toCard_102 : decode cX12_toCard 102 = .ok (.lastore, 1) := by decide +kernel
theorem dX12_toCard_103 : decode cX12_toCard 103 = .ok (.aload_n 0, 1) := by decide +kernel
theorem dX12_toCard_104 : decode cX12_toCard 104 = .ok (.getfield 48, 3) := by decide +kernel
theorem dX12_toCard_107 : decode cX12_toCard 107 = .ok (.bipush 8, 2) := by decide +kernel
theorem dX12_toCard_109 : decode cX12_toCard 109 = .ok (.aload_n 0, 1) := by decide +kernel
theorem dX12_toCard_110 : decode cX12_toCard 110 = .ok (.iconst 0, 1) := by decide +kernel
theorem dX12_toCard_111 : decode cX12_toCard 111 = .ok (.iload_n 1, 1) := by decide +kernel
theorem dX12_toCard_112 : decode cX12_toCard 112 = .ok (.i2l, 1) := by decide +kernel
theorem dX12_toCard_113 : decode cX12_toCard 113 = .ok (.invokevirtual 234, 3) := by decide +kernel
theorem dX12_toCard_116 : decode cX12_toCard 116 = .ok (.i2l, 1) := by decide +kernel
theorem dX12_toCard_117 : decode cX12_toCard 117 = .ok (.lastore, 1) := by decide +kernel
theorem dX12_toCard_118 : decode cX12_toCard 118 = .ok (.aload_n 0, 1) := by decide +kernel
theorem dX12_toCard_119 : decode cX12_toCard 119 = .ok (.iconst 2, 1) := by decide +kernel
theorem dX12_toCard_120 : decode cX12_toCard 120 = .ok (.iload_n 1, 1) := by decide +kernel
theorem dX12_toCard_121 : decode cX12_toCard 121 = .ok (.invokevirtual 237, 3) := by decide +kernel
theorem dX12_toCard_124 : decode cX12_toCard 124 = .ok (.iconst 1, 1) := by decide +kernel
theorem dX12_toCard_125 : decode cX12_toCard 125 = .ok (.ireturn, 1) := by decide +kernel
theorem dX12_toCard_126 : decode cX12_toCard 126 = .ok (.iload_n 2, 1) := by decide +kernel
theorem dX12_toCard_127 : decode cX12_toCard 127 = .ok (.iconst 3, 1) := by decide +kernel
theorem dX12_toCard_128 : decode cX12_toCard 128 = .ok (.if_icmp .ne 20, 3) := by decide +kernel
theorem dX12_toCard_131 : decode cX12_toCard 131 = .ok (.aload_n 0, 1) := by decide +kernel
theorem dX12_toCard_132 : decode cX12_toCard 132 = .ok (.getfield 78, 3) := by decide +kernel
theorem dX12_toCard_135 : decode cX12_toCard 135 = .ok (.iload_n 1, 1) := by decide +kernel
theorem dX12_toCard_136 : decode cX12_toCard 136 = .ok (.iaload, 1) := by decide +kernel
theorem dX12_toCard_137 : decode cX12_toCard 137 = .ok (.iconst 1, 1) := by decide +kernel
theorem dX12_toCard_138 : decode cX12_toCard 138 = .ok (.if_icmp .ne 10, 3) := by decide +kernel
theorem dX12_toCard_141 : decode cX12_toCard 141 = .ok (.aload_n 0, 1) := by decide +kernel
theorem dX12_toCard_142 : decode cX12_toCard 142 = .ok (.iload_n 1, 1) := by decide +kernel
theorem dX12_toCard_143 : decode cX12_toCard 143 = .ok (.invokevirtual 241, 3) := by decide +kernel
theorem dX12_toCard_146 : decode cX12_toCard 146 = .ok (.iconst 1, 1) := by decide +kernel
theorem dX12_toCard_147 : decode cX12_toCard 147 = .ok (.ireturn, 1) := by decide +kernel
theorem dX12_toCard_148 : decode cX12_toCard 148 = .ok (.iload_n 2, 1) := by decide +kernel
theorem dX12_toCard_149 : decode cX12_toCard 149 = .ok (.iconst 5, 1) := by decide +kernel
theorem dX12_toCard_150 : decode cX12_toCard 150 = .ok (.if_icmp .ne 20, 3) := by decide +kernel
theorem dX12_toCard_153 : decode cX12_toCard 153 = .ok (.aload_n 0, 1) := by decide +kernel
theorem dX12_toCard_154 : decode cX12_toCard 154 = .ok (.getfield 78, 3) := by decide +kernel
theorem dX12_toCard_157 : decode cX12_toCard 157 = .ok (.iload_n 1, 1) := by decide +kernel
theorem dX12_toCard_158 : decode cX12_toCard 158 = .ok (.iaload, 1) := by decide +kernel
theorem dX12_toCard_159 : decode cX12_toCard 159 = .ok (.iconst 1, 1) := by decide +kernel
theorem dX12_toCard_160 : decode cX12_toCard 160 = .ok (.if_icmp .ne 10, 3) := by decide +kernel
theorem dX12_toCard_163 : decode cX12_toCard 163 = .ok (.aload_n 0, 1) := by decide +kernel
theorem dX12_toCard_164 : decode cX12_toCard 164 = .ok (.iload_n 1, 1) := by decide +kernel
theorem dX12_toCard_165 : decode cX12_toCard 165 = .ok (.invokevirtual 244, 3) := by decide +kernel
theorem dX12_toCard_168 : decode cX12_toCard 168 = .ok (.iconst 1, 1) := by decide +kernel
theorem dX12_toCard_169 : decode cX12_toCard 169 = .ok (.ireturn, 1) := by decide +kernel
theorem dX12_toCard_170 : decode cX12_toCard 170 = .ok (.iload_n 2, 1) := by decide +kernel
theorem dX12_toCard_171 : decode cX12_toCard 171 = .ok (.bipush 9, 2) := by decide +kernel
theorem dX12_toCard_173 : decode cX12_toCard 173 = .ok (.if_icmp .ne 20, 3) := by decide +kernel
theorem dX12_toCard_176 : decode cX12_toCard 176 = .ok (.aload_n 0, 1) := by decide +kernel
theorem dX12_toCard_177 : decode cX12_toCard 177 = .ok (.getfield 78, 3) := by decide +kernel
theorem dX12_toCard_180 : decode cX12_toCard 180 = .ok (.iload_n 1, 1) := by decide +kernel
theorem dX12_toCard_181 : decode cX12_toCard 181 = .ok (.iaload, 1) := by decide +kernel
theorem dX12_toCard_182 : decode cX12_toCard 182 = .ok (.iconst 2, 1) := by decide +kernel
theorem dX12_toCard_183 : decode cX12_toCard 183 = .ok (.if_icmp .ne 10, 3) := by decide +kernel
theorem dX12_toCard_186 : decode cX12_toCard 186 = .ok (.aload_n 0, 1) := by decide +kernel
theorem dX12_toCard_187 : decode cX12_toCard 187 = .ok (.iload_n 1, 1) := by decide +kernel
theorem dX12_toCard_188 : decode cX12_toCard 188 = .ok (.invokevirtual 247, 3) := by decide +kernel
theorem dX12_toCard_191 : decode cX12_toCard 191 = .ok (.iconst 1, 1) := by decide +kernel
theorem dX12_toCard_192 : decode cX12_toCard 192 = .ok (.ireturn, 1) := by decide +kernel
theorem dX12_toCard_193 : decode cX12_toCard 193 = .ok (.iconst 0, 1) := by decide +kernel
theorem dX12_toCard_194 : decode cX12_toCard 194 = .ok (.ireturn, 1) := by decide +kernel
theorem dX12_typePin_0 : decode cX12_typePin 0 = .ok (.aload_n 0, 1) := by decide +kernel
theorem dX12_typePin_1 : decode cX12_typePin 1 = .ok (.getfield 72, 3) := by decide +kernel
theorem dX12_typePin_4 : decode cX12_typePin 4 = .ok (.iload_n 1, 1) := by decide +kernel
theorem dX12_typePin_5 : decode cX12_typePin 5 = .ok (.iaload, 1) := by decide +kernel
theorem dX12_typePin_6 : decode cX12_typePin 6 = .ok (.ifCond .ne 27, 3) := by decide +kernel
theorem dX12_typePin_9 : decode cX12_typePin 9 = .ok (.aload_n 0, 1) := by decide +kernel
theorem dX12_typePin_10 : decode cX12_typePin 10 = .ok (.getfield 81, 3) := by decide +kernel
theorem dX12_typePin_13 : decode cX12_typePin 13 = .ok (.iload_n 1, 1) := by decide +kernel
theorem dX12_typePin_14 : decode cX12_typePin 14 = .ok (.iconst 2, 1) := by decide +kernel
theorem dX12_typePin_15 : decode cX12_typePin 15 = .ok (.iastore, 1) := by decide +kernel
theorem dX12_typePin_16 : decode cX12_typePin 16 = .ok (.aload_n 0, 1) := by decide +kernel
theorem dX12_typePin_17 : decode cX12_typePin 17 = .ok (.getfield 48, 3) := by decide +kernel
theorem dX12_typePin_20 : decode cX12_typePin 20 = .ok (.bipush 6, 2) := by decide +kernel
theorem dX12_typePin_22 : decode cX12_typePin 22 = .ok (.ldc2_w 225, 3) := by decide +kernel
theorem dX12_typePin_25 : decode cX12_typePin 25 = .ok (.lastore, 1) := by decide +kernel
theorem dX12_typePin_26 : decode cX12_typePin 26 = .ok (.aload_n 0, 1) := by decide +kernel
theorem dX12_typePin_27 : decode cX12_typePin 27 = .ok (.iconst 4, 1) := by decide +kernel
theorem dX12_typePin_28 : decode cX12_typePin 28 = .ok (.iload_n 1, 1) := by decide +kernel
theorem dX12_typePin_29 : decode cX12_typePin 29 = .ok (.invokevirtual 237, 3) := by decide +kernel
theorem dX12_typePin_32 : decode cX12_typePin 32 = .ok (.return_, 1) := by decide +kernel
theorem dX12_typePin_33 : decode cX12_typePin 33 = .ok (.aload_n 0, 1) := by decide +kernel
theorem dX12_typePin_34 : decode cX12_typePin 34 = .ok (.iload_n 1, 1) := by decide +kernel
theorem dX12_typePin_35 : decode cX12_typePin 35 = .ok (.invokevirtual 222, 3) := by decide +kernel
theorem dX12_typePin_38 : decode cX12_typePin 38 = .ok (.ifCond .ne 4, 3) := by decide +kernel
theorem dX12_typePin_41 : decode cX12_typePin 41 = .ok (.return_, 1) := by decide +kernel
theorem dX12_typePin_42 : decode cX12_typePin 42 = .ok (.aload_n 0, 1) := by decide +kernel
theorem dX12_typePin_43 : decode cX12_typePin 43 = .ok (.getfield 72, 3) := by decide +kernel
theorem dX12_typePin_46 : decode cX12_typePin 46 = .ok (.iload_n 1, 1) := by decide +kernel
theorem dX12_typePin_47 : decode cX12_typePin 47 = .ok (.dup2, 1) := by decide +kernel
theorem dX12_typePin_48 : decode cX12_typePin 48 = .ok (.iaload, 1) := by decide +kernel
theorem dX12_typePin_49 : decode cX12_typePin 49 = .ok (.iconst 1, 1) := by decide +kernel
theorem dX12_typePin_50 : decode cX12_typePin 50 = .ok (.isub, 1) := by decide +kernel
theorem dX12_typePin_51 : decode cX12_typePin 51 = .ok (.iastore, 1) := by decide +kernel
theorem dX12_typePin_52 : decode cX12_typePin 52 = .ok (.aload_n 0, 1) := by decide +kernel
theorem dX12_typePin_53 : decode cX12_typePin 53 = .ok (.getfield 45, 3) := by decide +kernel
theorem dX12_typePin_56 : decode cX12_typePin 56 = .ok (.bipush 9, 2) := by decide +kernel
theorem dX12_typePin_58 : decode cX12_typePin 58 = .ok (.laload, 1) := by decide +kernel
theorem dX12_typePin_59 : decode cX12_typePin 59 = .ok (.aload_n 0, 1) := by decide +kernel
theorem dX12_typePin_60 : decode cX12_typePin 60 = .ok (.getfield 54, 3) := by decide +kernel
theorem dX12_typePin_63 : decode cX12_typePin 63 = .ok (.iload_n 1, 1) := by decide +kernel
theorem dX12_typePin_64 : decode cX12_typePin 64 = .ok (.iaload, 1) := by decide +kernel
theorem dX12_typePin_65 : decode cX12_typePin 65 = .ok (.i2l, 1) := by decide +kernel
theorem dX12_typePin_66 : decode cX12_typePin 66 = .ok (.lcmp, 1) := by decide +kernel
theorem dX12_typePin_67 : decode cX12_typePin 67 = .ok (.ifCond .ne 7, 3) := by decide +kernel
theorem dX12_typePin_70 : decode cX12_typePin 70 = .ok (.iconst 1, 1) := by decide +kernel
theorem dX12_typePin_71 : decode cX12_typePin 71 = .ok (.goto 4, 3) := by decide +kernel
theorem dX12_typePin_74 : decode cX12_typePin 74 = .ok (.iconst 0, 1) := by decide +kernel
theorem dX12_typePin_75 : decode cX12_typePin 75 = .ok (.istore_n 2, 1) := by decide +kernel
theorem dX12_typePin_76 : decode cX12_typePin 76 = .ok (.iload_n 2, 1) := by decide +kernel
theorem dX12_typePin_77 : decode cX12_typePin 77 = .ok (.ifCond .eq 19, 3) := by decide +kernel
theorem dX12_typePin_80 : decode cX12_typePin 80 = .ok (.aload_n 0, 1) := by decide +kernel
theorem dX12_typePin_81 : decode cX12_typePin 81 = .ok (.iload_n 1, 1) := by decide +kernel
theorem dX12_typePin_82 : decode cX12_typePin 82 = .ok (.invokevirtual 222, 3) := by decide +kernel
theorem dX12_typePin_85 : decode cX12_typePin 85 = .ok (.ifCond .ne 4, 3) := by decide +kernel
theorem dX12_typePin_88 : decode cX12_typePin 88 = .ok (.return_, 1) := by decide +kernel
theorem dX12_typePin_89 : decode cX12_typePin 89 = .ok (.aload_n 0, 1) := by decide +kernel
theorem dX12_typePin_90 : decode cX12_typePin 90 = .ok (.getfield 72, 3) := by decide +kernel
theorem dX12_typePin_93 : decode cX12_typePin 93 = .ok (.iload_n 1, 1) := by decide +kernel
theorem dX12_typePin_94 : decode cX12_typePin 94 = .ok (.iconst 3, 1) := by decide +kernel
theorem dX12_typePin_95 : decode cX12_typePin 95 = .ok (.iastore, 1) := by decide +kernel
theorem dX12_typePin_96 : decode cX12_typePin 96 = .ok (.aload_n 0, 1) := by decide +kernel
theorem dX12_typePin_97 : decode cX12_typePin 97 = .ok (.getfield 81, 3) := by decide +kernel
theorem dX12_typePin_100 : decode cX12_typePin 100 = .ok (.iload_n 1, 1) := by decide +kernel
theorem dX12_typePin_101 : decode cX12_typePin 101 = .ok (.iload_n 2, 1) := by decide +kernel
theorem dX12_typePin_102 : decode cX12_typePin 102 = .ok (.ifCond .eq 7, 3) := by decide +kernel
theorem dX12_typePin_105 : decode cX12_typePin 105 = .ok (.iconst 1, 1) := by decide +kernel
theorem dX12_typePin_106 : decode cX12_typePin 106 = .ok (.goto 4, 3) := by decide +kernel
theorem dX12_typePin_109 : decode cX12_typePin 109 = .ok (.iconst 2, 1) := by decide +kernel
theorem dX12_typePin_110 : decode cX12_typePin 110 = .ok (.iastore, 1) := by decide +kernel
theorem dX12_typePin_111 : decode cX12_typePin 111 = .ok (.aload_n 0, 1) := by decide +kernel
theorem dX12_typePin_112 : decode cX12_typePin 112 = .ok (.getfield 48, 3) := by decide +kernel
theorem dX12_typePin_115 : decode cX12_typePin 115 = .ok (.bipush 6, 2) := by decide +kernel
theorem dX12_typePin_117 : decode cX12_typePin 117 = .ok (.iload_n 2, 1) := by decide +kernel
theorem dX12_typePin_118 : decode cX12_typePin 118 = .ok (.ifCond .eq 7, 3) := by decide +kernel
theorem dX12_typePin_121 : decode cX12_typePin 121 = .ok (.lconst 1, 1) := by decide +kernel
theorem dX12_typePin_122 : decode cX12_typePin 122 = .ok (.goto 4, 3) := by decide +kernel
theorem dX12_typePin_125 : decode cX12_typePin 125 = .ok (.lconst 0, 1) := by decide +kernel
theorem dX12_typePin_126 : decode cX12_typePin 126 = .ok (.lastore, 1) := by decide +kernel
theorem dX12_typePin_127 : decode cX12_typePin 127 = .ok (.aload_n 0, 1) := by decide +kernel
theorem dX12_typePin_128 : decode cX12_typePin 128 = .ok (.iconst 4, 1) := by decide +kernel
theorem dX12_typePin_129 : decode cX12_typePin 129 = .ok (.iload_n 1, 1) := by decide +kernel
theorem dX12_typePin_130 : decode cX12_typePin 130 = .ok (.invokevirtual 237, 3) := by decide +kernel
theorem dX12_typePin_133 : decode cX12_typePin 133 = .ok (.return_, 1) := by decide +kernel
theorem dX12_answer_0 : decode cX12_answer 0 = .ok (.aload_n 0, 1) := by decide +kernel
theorem dX12_answer_1 : decode cX12_answer 1 = .ok (.getfield 45, 3) := by decide +kernel
theorem dX12_answer_4 : decode cX12_answer 4 = .ok (.bipush 7, 2) := by decide +kernel
theorem dX12_answer_6 : decode cX12_answer 6 = .ok (.laload, 1) := by decide +kernel
theorem dX12_answer_7 : decode cX12_answer 7 = .ok (.lstore_n 2, 1) := by decide +kernel
theorem dX12_answer_8 : decode cX12_answer 8 = .ok (.aload_n 0, 1) := by decide +kernel
theorem dX12_answer_9 : decode cX12_answer 9 = .ok (.getfield 45, 3) := by decide +kernel
theorem dX12_answer_12 : decode cX12_answer 12 = .ok (.iconst 3, 1) := by decide +kernel
theorem dX12_answer_13 : decode cX12_answer 13 = .ok (.laload, 1) := by decide +kernel
theorem dX12_answer_14 : decode cX12_answer 14 = .ok (.lstore 4, 2) := by decide +kernel
theorem dX12_answer_16 : decode cX12_answer 16 = .ok (.iconst 1, 1) := by decide +kernel
theorem dX12_answer_17 : decode cX12_answer 17 = .ok (.istore 6, 2) := by decide +kernel
theorem dX12_answer_19 : decode cX12_answer 19 = .ok (.aload_n 0, 1) := by decide +kernel
theorem dX12_answer_20 : decode cX12_answer 20 = .ok (.getfield 72, 3) := by decide +kernel
theorem dX12_answer_23 : decode cX12_answer 23 = .ok (.iload_n 1, 1) := by decide +kernel
theorem dX12_answer_24 : decode cX12_answer 24 = .ok (.iaload, 1) := by decide +kernel
theorem dX12_answer_25 : decode cX12_answer 25 = .ok (.ifCond .eq 9, 3) := by decide +kernel
theorem dX12_answer_28 : decode cX12_answer 28 = .ok (.lload_n 2, 1) := by decide +kernel
theorem dX12_answer_29 : decode cX12_answer 29 = .ok (.lconst 0, 1) := by decide +kernel
theorem dX12_answer_30 : decode cX12_answer 30 = .ok (.lcmp, 1) := by decide +kernel
theorem dX12_answer_31 : decode cX12_answer 31 = .ok (.ifCond .ne 9, 3) := by decide +kernel
theorem dX12_answer_34 : decode cX12_answer 34 = .ok (.iconst 0, 1) := by decide +kernel
theorem dX12_answer_35 : decode cX12_answer 35 = .ok (.istore 6, 2) := by decide +kernel
theorem dX12_answer_37 : decode cX12_answer 37 = .ok (.goto 60, 3) := by decide +kernel
theorem dX12_answer_40 : decode cX12_answer 40 = .ok (.lload_n 2, 1) := by decide +kernel
theorem dX12_answer_41 : decode cX12_answer 41 = .ok (.ldc2_w 225, 3) := by decide +kernel
theorem dX12_answer_44 : decode cX12_answer 44 = .ok (.lcmp, 1) := by decide +kernel
theorem dX12_answer_45 : decode cX12_answer 45 = .ok (.ifCond .ne 52, 3) := by decide +kernel
theorem dX12_answer_48 : decode cX12_answer 48 = .ok (.lload 4, 2) := by decide +kernel
theorem dX12_answer_50 : decode cX12_answer 50 = .ok (.aload_n 0, 1) := by decide +kernel
theorem dX12_answer_51 : decode cX12_answer 51 = .ok (.getfield 57, 3) := by decide +kernel
theorem dX12_answer_54 : decode cX12_answer 54 = .ok (.iload_n 1, 1) := by decide +kernel
theorem dX12_answer_55 : decode cX12_answer 55 = .ok (.laload, 1) := by decide +kernel
theorem dX12_answer_56 : decode cX12_answer 56 = .ok (.lcmp, 1) := by decide +kernel
theorem dX12_answer_57 : decode cX12_answer 57 = .ok (.ifCond .gt 40, 3) := by decide +kernel
theorem dX12_answer_60 : decode cX12_answer 60 = .ok (.aload_n 0, 1) := by decide +kernel
theorem dX12_answer_61 : decode cX12_answer 61 = .ok (.getfield 75, 3) := by decide +kernel
theorem dX12_answer_64 : decode cX12_answer 64 = .ok (.iload_n 1, 1) := by decide +kernel
theorem dX12_answer_65 : decode cX12_answer 65 = .ok (.iaload, 1) := by decide +kernel
theorem dX12_answer_66 : decode cX12_answer 66 = .ok (.aload_n 0, 1) := by decide +kernel
theorem dX12_answer_67 : decode cX12_answer 67 = .ok (.getfield 60, 3) := by decide +kernel
theorem dX12_answer_70 : decode cX12_answer 70 = .ok (.iload_n 1, 1) := by decide +kernel
theorem dX12_answer_71 : decode cX12_answer 71 = .ok (.iaload, 1) := by decide +kernel
theorem dX12_answer_72 : decode cX12_answer 72 = .ok (.if_icmp .ge 25, 3) := by decide +kernel
theorem dX12_answer_75 : decode cX12_answer 75 = .ok (.aload_n 0, 1) := by decide +kernel
theorem dX12_answer_76 : decode cX12_answer 76 = .ok (.iload_n 1, 1) := by decide +kernel
theorem dX12_answer_77 : decode cX12_answer 77 = .ok (.invokevirtual 222, 3) := by decide +kernel
theorem dX12_answer_80 : decode cX12_answer 80 = .ok (.ifCond .ne 4, 3) := by decide +kernel
theorem dX12_answer_83 : decode cX12_answer 83 = .ok (.return_, 1) := by decide +kernel
theorem dX12_answer_84 : decode cX12_answer 84 = .ok (.aload_n 0, 1) := by decide +kernel
theorem dX12_answer_85 : decode cX12_answer 85 = .ok (.getfield 75, 3) := by decide +kernel
theorem dX12_answer_88 : decode cX12_answer 88 = .ok (.iload_n 1, 1) := by decide +kernel
theorem dX12_answer_89 : decode cX12_answer 89 = .ok (.dup2, 1) := by decide +kernel
theorem dX12_answer_90 : decode cX12_answer 90 = .ok (.iaload, 1) := by decide +kernel
theorem dX12_answer_91 : decode cX12_answer 91 = .ok (.iconst 1, 1) := by decide +kernel
theorem dX12_answer_92 : decode cX12_answer 92 = .ok (.iadd, 1) := by decide +kernel
theorem dX12_answer_93 : decode cX12_answer 93 = .ok (.iastore, 1) := by decide +kernel
theorem dX12_answer_94 : decode cX12_answer 94 = .ok (.iconst 2, 1) := by decide +kernel
theorem dX12_answer_95 : decode cX12_answer 95 = .ok (.istore 6, 2) := by decide +kernel
theorem dX12_answer_97 : decode cX12_answer 97 = .ok (.aload_n 0, 1) := by decide +kernel
theorem dX12_answer_98 : decode cX12_answer 98 = .ok (.getfield 84, 3) := by decide +kernel
theorem dX12_answer_101 : decode cX12_answer 101 = .ok (.iload_n 1, 1) := by decide +kernel
theorem dX12_answer_102 : decode cX12_answer 102 = .ok (.lload 4, 2) := by decide +kernel
theorem dX12_answer_104 : decode cX12_answer 104 = .ok (.lastore, 1) := by decide +kernel
theorem dX12_answer_105 : decode cX12_answer 105 = .ok (.aload_n 0, 1) := by decide +kernel
theorem dX12_answer_106 : decode cX12_answer 106 = .ok (.getfield 87, 3) := by decide +kernel
theorem dX12_answer_109 : decode cX12_answer 109 = .ok (.iload_n 1, 1) := by decide +kernel
theorem dX12_answer_110 : decode cX12_answer 110 = .ok (.aload_n 0, 1) := by decide +kernel
theorem dX12_answer_111 : decode cX12_answer 111 = .ok (.getfield 45, 3) := by decide +kernel
theorem dX12_answer_114 : decode cX12_answer 114 = .ok (.iconst 4, 1) := by decide +kernel
theorem dX12_answer_115 : decode cX12_answer 115 = .ok (.laload, 1) := by decide +kernel
theorem dX12_answer_116 : decode cX12_answer 116 = .ok (.lastore, 1) := by decide +kernel
theorem dX12_answer_117 : decode cX12_answer 117 = .ok (.aload_n 0, 1) := by decide +kernel
theorem dX12_answer_118 : decode cX12_answer 118 = .ok (.getfield 90, 3) := by decide +kernel
theorem dX12_answer_121 : decode cX12_answer 121 = .ok (.iload_n 1, 1) := by decide +kernel
theorem dX12_answer_122 : decode cX12_answer 122 = .ok (.aload_n 0, 1) := by decide +kernel
theorem dX12_answer_123 : decode cX12_answer 123 = .ok (.getfield 45, 3) := by decide +kernel
theorem dX12_answer_126 : decode cX12_answer 126 = .ok (.iconst 5, 1) := by decide +kernel
theorem dX12_answer_127 : decode cX12_answer 127 = .ok (.laload, 1) := by decide +kernel
theorem dX12_answer_128 : decode cX12_answer 128 = .ok (.lastore, 1) := by decide +kernel
theorem dX12_answer_129 : decode cX12_answer 129 = .ok (.aload_n 0, 1) := by decide +kernel
theorem dX12_answer_130 : decode cX12_answer 130 = .ok (.ldc2_w 250, 3) := by decide +kernel
theorem dX12_answer_133 : decode cX12_answer 133 = .ok (.invokevirtual 227, 3) := by decide +kernel
theorem dX12_answer_136 : decode cX12_answer 136 = .ok (.aload_n 0, 1) := by decide +kernel
theorem dX12_answer_137 : decode cX12_answer 137 = .ok (.iload 6, 2) := by decide +kernel
theorem dX12_answer_139 : decode cX12_answer 139 = .ok (.i2l, 1) := by decide +kernel
theorem dX12_answer_140 : decode cX12_answer 140 = .ok (.invokevirtual 231, 3) := by decide +kernel
theorem dX12_answer_143 : decode cX12_answer 143 = .ok (.aload_n 0, 1) := by decide +kernel
theorem dX12_answer_144 : decode cX12_answer 144 = .ok (.lload 4, 2) := by decide +kernel
theorem dX12_answer_146 : decode cX12_answer 146 = .ok (.invokevirtual 231, 3) := by decide +kernel
theorem dX12_answer_149 : decode cX12_answer 149 = .ok (.aload_n 0, 1) := by decide +kernel
theorem dX12_answer_150 : decode cX12_answer 150 = .ok (.aload_n 0, 1) := by decide +kernel
theorem dX12_answer_151 : decode cX12_answer 151 = .ok (.getfield 45, 3) := by decide +kernel
theorem dX12_answer_154 : decode cX12_answer 154 = .ok (.iconst 4, 1) := by decide +kernel
theorem dX12_answer_155 : decode cX12_answer 155 = .ok (.laload, 1) := by decide +kernel
theorem dX12_answer_156 : decode cX12_answer 156 = .ok (.invokevirtual 231, 3) := by decide +kernel
theorem dX12_answer_159 : decode cX12_answer 159 = .ok (.aload_n 0, 1) := by decide +kernel
theorem dX12_answer_160 : decode cX12_answer 160 = .ok (.aload_n 0, 1) := by decide +kernel
theorem dX12_answer_161 : decode cX12_answer 161 = .ok (.getfield 45, 3) := by decide +kernel
theorem dX12_answer_164 : decode cX12_answer 164 = .ok (.iconst 5, 1) := by decide +kernel
theorem dX12_answer_165 : decode cX12_answer 165 = .ok (.laload, 1) := by decide +kernel
theorem dX12_answer_166 : decode cX12_answer 166 = .ok (.invokevirtual 231, 3) := by decide +kernel
theorem dX12_answer_169 : decode cX12_answer 169 = .ok (.aload_n 0, 1) := by decide +kernel
theorem dX12_answer_170 : decode cX12_answer 170 = .ok (.aload_n 0, 1) := by decide +kernel
theorem dX12_answer_171 : decode cX12_answer 171 = .ok (.getfield 69, 3) := by decide +kernel
theorem dX12_answer_174 : decode cX12_answer 174 = .ok (.iload_n 1, 1) := by decide +kernel
theorem dX12_answer_175 : decode cX12_answer 175 = .ok (.iaload, 1) := by decide +kernel
theorem dX12_answer_176 : decode cX12_answer 176 = .ok (.i2l, 1) := by decide +kernel
theorem dX12_answer_177 : decode cX12_answer 177 = .ok (.invokevirtual 231, 3) := by decide +kernel
theorem dX12_answer_180 : decode cX12_answer 180 = .ok (.aload_n 0, 1) := by decide +kernel
theorem dX12_answer_181 : decode cX12_answer 181 = .ok (.aload_n 0, 1) := by decide +kernel
theorem dX12_answer_182 : decode cX12_answer 182 = .ok (.getfield 81, 3) := by decide +kernel
theorem dX12_answer_185 : decode cX12_answer 185 = .ok (.iload_n 1, 1) := by decide +kernel
theorem dX12_answer_186 : decode cX12_answer 186 = .ok (.iaload, 1) := by decide +kernel
theorem dX12_answer_187 : decode cX12_answer 187 = .ok (.i2l, 1) := by decide +kernel
theorem dX12_answer_188 : decode cX12_answer 188 = .ok (.invokevirtual 231, 3) := by decide +kernel
theorem dX12_answer_191 : decode cX12_answer 191 = .ok (.aload_n 0, 1) := by decide +kernel
theorem dX12_answer_192 : decode cX12_answer 192 = .ok (.getfield 48, 3) := by decide +kernel
theorem dX12_answer_195 : decode cX12_answer 195 = .ok (.iconst 2, 1) := by decide +kernel
theorem dX12_answer_196 : decode cX12_answer 196 = .ok (.aload_n 0, 1) := by decide +kernel
theorem dX12_answer_197 : decode cX12_answer 197 = .ok (.getfield 69, 3) := by decide +kernel
theorem dX12_answer_200 : decode cX12_answer 200 = .ok (.iload_n 1, 1) := by decide +kernel
theorem dX12_answer_201 : decode cX12_answer 201 = .ok (.iaload, 1) := by decide +kernel
theorem dX12_answer_202 : decode cX12_answer 202 = .ok (.i2l, 1) := by decide +kernel
theorem dX12_answer_203 : decode cX12_answer 203 = .ok (.lastore, 1) := by decide +kernel
theorem dX12_answer_204 : decode cX12_answer 204 = .ok (.aload_n 0, 1) := by decide +kernel
theorem dX12_answer_205 : decode cX12_answer 205 = .ok (.getfield 48, 3) := by decide +kernel
theorem dX12_answer_208 : decode cX12_answer 208 = .ok (.bipush 6, 2) := by decide +kernel
theorem dX12_answer_210 : decode cX12_answer 210 = .ok (.aload_n 0, 1) := by decide +kernel
theorem dX12_answer_211 : decode cX12_answer 211 = .ok (.getfield 81, 3) := by decide +kernel
theorem dX12_answer_214 : decode cX12_answer 214 = .ok (.iload_n 1, 1) := by decide +kernel
theorem dX12_answer_215 : decode cX12_answer 215 = .ok (.iaload, 1) := by decide +kernel
theorem dX12_answer_216 : decode cX12_answer 216 = .ok (.i2l, 1) := by decide +kernel
theorem dX12_answer_217 : decode cX12_answer 217 = .ok (.lastore, 1) := by decide +kernel
theorem dX12_answer_218 : decode cX12_answer 218 = .ok (.aload_n 0, 1) := by decide +kernel
theorem dX12_answer_219 : decode cX12_answer 219 = .ok (.getfield 48, 3) := by decide +kernel
theorem dX12_answer_222 : decode cX12_answer 222 = .ok (.bipush 7, 2) := by decide +kernel
theorem dX12_answer_224 : decode cX12_answer 224 = .ok (.iload 6, 2) := by decide +kernel
theorem dX12_answer_226 : decode cX12_answer 226 = .ok (.i2l, 1) := by decide +kernel
theorem dX12_answer_227 : decode cX12_answer 227 = .ok (.lastore, 1) := by decide +kernel
theorem dX12_answer_228 : decode cX12_answer 228 = .ok (.aload_n 0, 1) := by decide +kernel
theorem dX12_answer_229 : decode cX12_answer 229 = .ok (.getfield 48, 3) := by decide +kernel
theorem dX12_answer_232 : decode cX12_answer 232 = .ok (.bipush 8, 2) := by decide +kernel
theorem dX12_answer_234 : decode cX12_answer 234 = .ok (.aload_n 0, 1) := by decide +kernel
theorem dX12_answer_235 : decode cX12_answer 235 = .ok (.iconst 0, 1) := by decide +kernel
theorem dX12_answer_236 : decode cX12_answer 236 = .ok (.iload_n 1, 1) := by decide +kernel
theorem dX12_answer_237 : decode cX12_answer 237 = .ok (.i2l, 1) := by decide +kernel
theorem dX12_answer_238 : decode cX12_answer 238 = .ok (.invokevirtual 234, 3) := by decide +kernel
theorem dX12_answer_241 : decode cX12_answer 241 = .ok (.i2l, 1) := by decide +kernel
theorem dX12_answer_242 : decode cX12_answer 242 = .ok (.lastore, 1) := by decide +kernel
theorem dX12_answer_243 : decode cX12_answer 243 = .ok (.bipush 7, 2) := by decide +kernel
theorem dX12_answer_245 : decode cX12_answer 245 = .ok (.aload_n 0, 1) := by decide +kernel
theorem dX12_answer_246 : decode cX12_answer 246 = .ok (.getfield 252, 3) := by decide +kernel
theorem dX12_answer_249 : decode cX12_answer 249 = .ok (.imul, 1) := by decide +kernel
theorem dX12_answer_250 : decode cX12_answer 250 = .ok (.istore 7, 2) := by decide +kernel
theorem dX12_answer_252 : decode cX12_answer 252 = .ok (.aload_n 0, 1) := by decide +kernel
theorem dX12_answer_253 : decode cX12_answer 253 = .ok (.getfield 154, 3) := by decide +kernel
theorem dX12_answer_256 : decode cX12_answer 256 = .ok (.iload 7, 2) := by decide +kernel
theorem dX12_answer_258 : decode cX12_answer 258 = .ok (.iload_n 1, 1) := by decide +kernel
theorem dX12_answer_259 : decode cX12_answer 259 = .ok (.i2l, 1) := by decide +kernel
theorem dX12_answer_260 : decode cX12_answer 260 = .ok (.lastore, 1) := by decide +kernel
theorem dX12_answer_261 : decode cX12_answer 261 = .ok (.aload_n 0, 1) := by decide +kernel
theorem dX12_answer_262 : decode cX12_answer 262 = .ok (.getfield 154, 3) := by decide +kernel
theorem dX12_answer_265 : decode cX12_answer 265 = .ok (.iload 7, 2) := by decide +kernel
theorem dX12_answer_267 : decode cX12_answer 267 = .ok (.iconst 1, 1) := by decide +kernel
theorem dX12_answer_268 : decode cX12_answer 268 = .ok (.iadd, 1) := by decide +kernel
theorem dX12_answer_269 : decode cX12_answer 269 = .ok (.aload_n 0, 1) := by decide +kernel
theorem dX12_answer_270 : decode cX12_answer 270 = .ok (.getfield 69, 3) := by decide +kernel
theorem dX12_answer_273 : decode cX12_answer 273 = .ok (.iload_n 1, 1) := by decide +kernel
theorem dX12_answer_274 : decode cX12_answer 274 = .ok (.iaload, 1) := by decide +kernel
theorem dX12_answer_275 : decode cX12_answer 275 = .ok (.i2l, 1) := by decide +kernel
theorem dX12_answer_276 : decode cX12_answer 276 = .ok (.lastore, 1) := by decide +kernel
theorem dX12_answer_277 : decode cX12_answer 277 = .ok (.aload_n 0, 1) := by decide +kernel
theorem dX12_answer_278 : decode cX12_answer 278 = .ok (.getfield 154, 3) := by decide +kernel
theorem dX12_answer_281 : decode cX12_answer 281 = .ok (.iload 7, 2) := by decide +kernel
theorem dX12_answer_283 : decode cX12_answer 283 = .ok (.iconst 2, 1) := by decide +kernel
theorem dX12_answer_284 : decode cX12_answer 284 = .ok (.iadd, 1) := by decide +kernel
theorem dX12_answer_285 : decode cX12_answer 285 = .ok (.lload 4, 2) := by decide +kernel
theorem dX12_answer_287 : decode cX12_answer 287 = .ok (.lastore, 1) := by decide +kernel
theorem dX12_answer_288 : decode cX12_answer 288 = .ok (.aload_n 0, 1) := by decide +kernel
theorem dX12_answer_289 : decode cX12_answer 289 = .ok (.getfield 154, 3) := by decide +kernel
theorem dX12_answer_292 : decode cX12_answer 292 = .ok (.iload 7, 2) := by decide +kernel
theorem dX12_answer_294 : decode cX12_answer 294 = .ok (.iconst 3, 1) := by decide +kernel
theorem dX12_answer_295 : decode cX12_answer 295 = .ok (.iadd, 1) := by decide +kernel
theorem dX12_answer_296 : decode cX12_answer 296 = .ok (.aload_n 0, 1) := by decide +kernel
theorem dX12_answer_297 : decode cX12_answer 297 = .ok (.getfield 45, 3) := by decide +kernel
theorem dX12_answer_300 : decode cX12_answer 300 = .ok (.iconst 4, 1) := by decide +kernel
theorem dX12_answer_301 : decode cX12_answer 301 = .ok (.laload, 1) := by decide +kernel
theorem dX12_answer_302 : decode cX12_answer 302 = .ok (.lastore, 1) := by decide +kernel
theorem dX12_answer_303 : decode cX12_answer 303 = .ok (.aload_n 0, 1) := by decide +kernel
theorem dX12_answer_304 : decode cX12_answer 304 = .ok (.getfield 154, 3) := by decide +kernel
theorem dX12_answer_307 : decode cX12_answer 307 = .ok (.iload 7, 2) := by decide +kernel
theorem dX12_answer_309 : decode cX12_answer 309 = .ok (.iconst 4, 1) := by decide +kernel
theorem dX12_answer_310 : decode cX12_answer 310 = .ok (.iadd, 1) := by decide +kernel
theorem dX12_answer_311 : decode cX12_answer 311 = .ok (.aload_n 0, 1) := by decide +kernel
theorem dX12_answer_312 : decode cX12_answer 312 = .ok (.getfield 45, 3) := by decide +kernel
theorem dX12_answer_315 : decode cX12_answer 315 = .ok (.iconst 5, 1) := by decide +kernel
theorem dX12_answer_316 : decode cX12_answer 316 = .ok (.laload, 1) := by decide +kernel
theorem dX12_answer_317 : decode cX12_answer 317 = .ok (.lastore, 1) := by decide +kernel
theorem dX12_answer_318 : decode cX12_answer 318 = .ok (.aload_n 0, 1) := by decide +kernel
theorem dX12_answer_319 : decode cX12_answer 319 = .ok (.getfield 154, 3) := by decide +kernel
theorem dX12_answer_322 : decode cX12_answer 322 = .ok (.iload 7, 2) := by decide +kernel
theorem dX12_answer_324 : decode cX12_answer 324 = .ok (.iconst 5, 1) := by decide +kernel
theorem dX12_answer_325 : decode cX12_answer 325 = .ok (.iadd, 1) := by decide +kernel
theorem dX12_answer_326 : decode cX12_answer 326 = .ok (.aload_n 0, 1) := by decide +kernel
theorem dX12_answer_327 : decode cX12_answer 327 = .ok (.getfield 81, 3) := by decide +kernel
theorem dX12_answer_330 : decode cX12_answer 330 = .ok (.iload_n 1, 1) := by decide +kernel
theorem dX12_answer_331 : decode cX12_answer 331 = .ok (.iaload, 1) := by decide +kernel
theorem dX12_answer_332 : decode cX12_answer 332 = .ok (.i2l, 1) := by decide +kernel
theorem dX12_answer_333 : decode cX12_answer 333 = .ok (.lastore, 1) := by decide +kernel
theorem dX12_answer_334 : decode cX12_answer 334 = .ok (.aload_n 0, 1) := by decide +kernel
theorem dX12_answer_335 : decode cX12_answer 335 = .ok (.getfield 154, 3) := by decide +kernel
theorem dX12_answer_338 : decode cX12_answer 338 = .ok (.iload 7, 2) := by decide +kernel
theorem dX12_answer_340 : decode cX12_answer 340 = .ok (.bipush 6, 2) := by decide +kernel
theorem dX12_answer_342 : decode cX12_answer 342 = .ok (.iadd, 1) := by decide +kernel
theorem dX12_answer_343 : decode cX12_answer 343 = .ok (.iload 6, 2) := by decide +kernel
theorem dX12_answer_345 : decode cX12_answer 345 = .ok (.i2l, 1) := by decide +kernel
theorem dX12_answer_346 : decode cX12_answer 346 = .ok (.lastore, 1) := by decide +kernel
theorem dX12_answer_347 : decode cX12_answer 347 = .ok (.aload_n 0, 1) := by decide +kernel
theorem dX12_answer_348 : decode cX12_answer 348 = .ok (.dup, 1) := by decide +kernel
theorem dX12_answer_349 : decode cX12_answer 349 = .ok (.getfield 252, 3) := by decide +kernel
theorem dX12_answer_352 : decode cX12_answer 352 = .ok (.iconst 1, 1) := by decide +kernel
theorem dX12_answer_353 : decode cX12_answer 353 = .ok (.iadd, 1) := by decide +kernel
theorem dX12_answer_354 : decode cX12_answer 354 = .ok (.putfield 252, 3) := by decide +kernel
theorem dX12_answer_357 : decode cX12_answer 357 = .ok (.aload_n 0, 1) := by decide +kernel
theorem dX12_answer_358 : decode cX12_answer 358 = .ok (.getfield 78, 3) := by decide +kernel
theorem dX12_answer_361 : decode cX12_answer 361 = .ok (.iload_n 1, 1) := by decide +kernel
theorem dX12_answer_362 : decode cX12_answer 362 = .ok (.iload 6, 2) := by decide +kernel
theorem dX12_answer_364 : decode cX12_answer 364 = .ok (.iconst 1, 1) := by decide +kernel
theorem dX12_answer_365 : decode cX12_answer 365 = .ok (.if_icmp .ne 7, 3) := by decide +kernel
theorem dX12_answer_368 : decode cX12_answer 368 = .ok (.iconst 2, 1) := by decide +kernel
theorem dX12_answer_369 : decode cX12_answer 369 = .ok (.goto 4, 3) := by decide +kernel
theorem dX12_answer_372 : decode cX12_answer 372 = .ok (.iconst 0, 1) := by decide +kernel
theorem dX12_answer_373 : decode cX12_answer 373 = .ok (.iastore, 1) := by decide +kernel
theorem dX12_answer_374 : decode cX12_answer 374 = .ok (.aload_n 0, 1) := by decide +kernel
theorem dX12_answer_375 : decode cX12_answer 375 = .ok (.bipush 6, 2) := by decide +kernel
theorem dX12_answer_377 : decode cX12_answer 377 = .ok (.iload_n 1, 1) := by decide +kernel
theorem dX12_answer_378 : decode cX12_answer 378 = .ok (.invokevirtual 237, 3) := by decide +kernel
theorem dX12_answer_381 : decode cX12_answer 381 = .ok (.return_, 1) := by decide +kernel
end
section
theorem dX12_finish_0 : decode cX12_finish 0 = .ok (.aload_n 0, 1) := by decide +kernel
theorem dX12_finish_1 : decode cX12_finish 1 = .ok (.ldc2_w 255, 3) := by decide +kernel
theorem dX12_finish_4 : decode cX12_finish 4 = .ok (.invokevirtual 227, 3) := by decide +kernel
theorem dX12_finish_7 : decode cX12_finish 7 = .ok (.aload_n 0, 1) := by decide +kernel
theorem dX12_finish_8 : decode cX12_finish 8 = .ok (.iload_n 1, 1) := by decide +kernel
theorem dX12_finish_9 : decode cX12_finish 9 = .ok (.i2l, 1) := by decide +kernel
theorem dX12_finish_10 : decode cX12_finish 10 = .ok (.invokevirtual 231, 3) := by decide +kernel
theorem dX12_finish_13 : decode cX12_finish 13 = .ok (.aload_n 0, 1) := by decide +kernel
theorem dX12_finish_14 : decode cX12_finish 14 = .ok (.aload_n 0, 1) := by decide +kernel
theorem dX12_finish_15 : decode cX12_finish 15 = .ok (.getfield 69, 3) := by decide +kernel
theorem dX12_finish_18 : decode cX12_finish 18 = .ok (.iload_n 1, 1) := by decide +kernel
theorem dX12_finish_19 : decode cX12_finish 19 = .ok (.iaload, 1) := by decide +kernel
theorem dX12_finish_20 : decode cX12_finish 20 = .ok (.i2l, 1) := by decide +kernel
theorem dX12_finish_21 : decode cX12_finish 21 = .ok (.invokevirtual 231, 3) := by decide +kernel
theorem dX12_finish_24 : decode cX12_finish 24 = .ok (.aload_n 0, 1) := by decide +kernel
theorem dX12_finish_25 : decode cX12_finish 25 = .ok (.aload_n 0, 1) := by decide +kernel
theorem dX12_finish_26 : decode cX12_finish 26 = .ok (.getfield 45, 3) := by decide +kernel
theorem dX12_finish_29 : decode cX12_finish 29 = .ok (.bipush 10, 2) := by decide +kernel
theorem dX12_finish_31 : decode cX12_finish 31 = .ok (.laload, 1) := by decide +kernel
theorem dX12_finish_32 : decode cX12_finish 32 = .ok (.invokevirtual 231, 3) := by decide +kernel
theorem dX12_finish_35 : decode cX12_finish 35 = .ok (.aload_n 0, 1) := by decide +kernel
theorem dX12_finish_36 : decode cX12_finish 36 = .ok (.getfield 45, 3) := by decide +kernel
theorem dX12_finish_39 : decode cX12_finish 39 = .ok (.bipush 10, 2) := by decide +kernel
theorem dX12_finish_41 : decode cX12_finish 41 = .ok (.laload, 1) := by decide +kernel
theorem dX12_finish_42 : decode cX12_finish 42 = .ok (.lconst 1, 1) := by decide +kernel
theorem dX12_finish_43 : decode cX12_finish 43 = .ok (.lcmp, 1) := by decide +kernel
theorem dX12_finish_44 : decode cX12_finish 44 = .ok (.ifCond .ne 24, 3) := by decide +kernel
theorem dX12_finish_47 : decode cX12_finish 47 = .ok (.aload_n 0, 1) := by decide +kernel
theorem dX12_finish_48 : decode cX12_finish 48 = .ok (.iconst 2, 1) := by decide +kernel
theorem dX12_finish_49 : decode cX12_finish 49 = .ok (.iload_n 1, 1) := by decide +kernel
theorem dX12_finish_50 : decode cX12_finish 50 = .ok (.i2l, 1) := by decide +kernel
theorem dX12_finish_51 : decode cX12_finish 51 = .ok (.aload_n 0, 1) := by decide +kernel
theorem dX12_finish_52 : decode cX12_finish 52 = .ok (.getfield 45, 3) := by decide +kernel
theorem dX12_finish_55 : decode cX12_finish 55 = .ok (.bipush 8, 2) := by decide +kernel
theorem dX12_finish_57 : decode cX12_finish 57 = .ok (.laload, 1) := by decide +kernel
theorem dX12_finish_58 : decode cX12_finish 58 = .ok (.invokevirtual 257, 3) := by decide +kernel
theorem dX12_finish_61 : decode cX12_finish 61 = .ok (.ifCond .eq 7, 3) := by decide +kernel
theorem dX12_finish_64 : decode cX12_finish 64 = .ok (.iconst 1, 1) := by decide +kernel
theorem dX12_finish_65 : decode cX12_finish 65 = .ok (.goto 4, 3) := by decide +kernel
theorem dX12_finish_68 : decode cX12_finish 68 = .ok (.iconst 0, 1) := by decide +kernel
theorem dX12_finish_69 : decode cX12_finish 69 = .ok (.istore_n 2, 1) := by decide +kernel
theorem dX12_finish_70 : decode cX12_finish 70 = .ok (.iload_n 2, 1) := by decide +kernel
theorem dX12_finish_71 : decode cX12_finish 71 = .ok (.ifCond .eq 19, 3) := by decide +kernel
theorem dX12_finish_74 : decode cX12_finish 74 = .ok (.aload_n 0, 1) := by decide +kernel
theorem dX12_finish_75 : decode cX12_finish 75 = .ok (.iload_n 1, 1) := by decide +kernel
theorem dX12_finish_76 : decode cX12_finish 76 = .ok (.invokevirtual 222, 3) := by decide +kernel
theorem dX12_finish_79 : decode cX12_finish 79 = .ok (.ifCond .ne 4, 3) := by decide +kernel
theorem dX12_finish_82 : decode cX12_finish 82 = .ok (.return_, 1) := by decide +kernel
theorem dX12_finish_83 : decode cX12_finish 83 = .ok (.aload_n 0, 1) := by decide +kernel
theorem dX12_finish_84 : decode cX12_finish 84 = .ok (.getfield 75, 3) := by decide +kernel
theorem dX12_finish_87 : decode cX12_finish 87 = .ok (.iload_n 1, 1) := by decide +kernel
theorem dX12_finish_88 : decode cX12_finish 88 = .ok (.iconst 0, 1) := by decide +kernel
theorem dX12_finish_89 : decode cX12_finish 89 = .ok (.iastore, 1) := by decide +kernel
theorem dX12_finish_90 : decode cX12_finish 90 = .ok (.iload_n 2, 1) := by decide +kernel
theorem dX12_finish_91 : decode cX12_finish 91 = .ok (.ifCond .eq 7, 3) := by decide +kernel
theorem dX12_finish_94 : decode cX12_finish 94 = .ok (.iconst 2, 1) := by decide +kernel
theorem dX12_finish_95 : decode cX12_finish 95 = .ok (.goto 4, 3) := by decide +kernel
theorem dX12_finish_98 : decode cX12_finish 98 = .ok (.iconst 0, 1) := by decide +kernel
theorem dX12_finish_99 : decode cX12_finish 99 = .ok (.istore_n 3, 1) := by decide +kernel
theorem dX12_finish_100 : decode cX12_finish 100 = .ok (.aload_n 0, 1) := by decide +kernel
theorem dX12_finish_101 : decode cX12_finish 101 = .ok (.ldc2_w 261, 3) := by decide +kernel
theorem dX12_finish_104 : decode cX12_finish 104 = .ok (.invokevirtual 227, 3) := by decide +kernel
theorem dX12_finish_107 : decode cX12_finish 107 = .ok (.aload_n 0, 1) := by decide +kernel
theorem dX12_finish_108 : decode cX12_finish 108 = .ok (.iload_n 3, 1) := by decide +kernel
theorem dX12_finish_109 : decode cX12_finish 109 = .ok (.i2l, 1) := by decide +kernel
theorem dX12_finish_110 : decode cX12_finish 110 = .ok (.invokevirtual 231, 3) := by decide +kernel
theorem dX12_finish_113 : decode cX12_finish 113 = .ok (.aload_n 0, 1) := by decide +kernel
theorem dX12_finish_114 : decode cX12_finish 114 = .ok (.aload_n 0, 1) := by decide +kernel
theorem dX12_finish_115 : decode cX12_finish 115 = .ok (.getfield 84, 3) := by decide +kernel
theorem dX12_finish_118 : decode cX12_finish 118 = .ok (.iload_n 1, 1) := by decide +kernel
theorem dX12_finish_119 : decode cX12_finish 119 = .ok (.laload, 1) := by decide +kernel
theorem dX12_finish_120 : decode cX12_finish 120 = .ok (.invokevirtual 231, 3) := by decide +kernel
theorem dX12_finish_123 : decode cX12_finish 123 = .ok (.aload_n 0, 1) := by decide +kernel
theorem dX12_finish_124 : decode cX12_finish 124 = .ok (.aload_n 0, 1) := by decide +kernel
theorem dX12_finish_125 : decode cX12_finish 125 = .ok (.getfield 87, 3) := by decide +kernel
theorem dX12_finish_128 : decode cX12_finish 128 = .ok (.iload_n 1, 1) := by decide +kernel
theorem dX12_finish_129 : decode cX12_finish 129 = .ok (.laload, 1) := by decide +kernel
theorem dX12_finish_130 : decode cX12_finish 130 = .ok (.invokevirtual 231, 3) := by decide +kernel
theorem dX12_finish_133 : decode cX12_finish 133 = .ok (.aload_n 0, 1) := by decide +kernel
theorem dX12_finish_134 : decode cX12_finish 134 = .ok (.aload_n 0, 1) := by decide +kernel
theorem dX12_finish_135 : decode cX12_finish 135 = .ok (.getfield 90, 3) := by decide +kernel
theorem dX12_finish_138 : decode cX12_finish 138 = .ok (.iload_n 1, 1) := by decide +kernel
theorem dX12_finish_139 : decode cX12_finish 139 = .ok (.laload, 1) := by decide +kernel
theorem dX12_finish_140 : decode cX12_finish 140 = .ok (.invokevirtual 231, 3) := by decide +kernel
theorem dX12_finish_143 : decode cX12_finish 143 = .ok (.aload_n 0, 1) := by decide +kernel
theorem dX12_finish_144 : decode cX12_finish 144 = .ok (.aload_n 0, 1) := by decide +kernel
theorem dX12_finish_145 : decode cX12_finish 145 = .ok (.getfield 69, 3) := by decide +kernel
theorem dX12_finish_148 : decode cX12_finish 148 = .ok (.iload_n 1, 1) := by decide +kernel
theorem dX12_finish_149 : decode cX12_finish 149 = .ok (.iaload, 1) := by decide +kernel
theorem dX12_finish_150 : decode cX12_finish 150 = .ok (.i2l, 1) := by decide +kernel
theorem dX12_finish_151 : decode cX12_finish 151 = .ok (.invokevirtual 231, 3) := by decide +kernel
theorem dX12_finish_154 : decode cX12_finish 154 = .ok (.aload_n 0, 1) := by decide +kernel
theorem dX12_finish_155 : decode cX12_finish 155 = .ok (.getfield 48, 3) := by decide +kernel
theorem dX12_finish_158 : decode cX12_finish 158 = .ok (.bipush 7, 2) := by decide +kernel
theorem dX12_finish_160 : decode cX12_finish 160 = .ok (.iload_n 3, 1) := by decide +kernel
theorem dX12_finish_161 : decode cX12_finish 161 = .ok (.i2l, 1) := by decide +kernel
theorem dX12_finish_162 : decode cX12_finish 162 = .ok (.lastore, 1) := by decide +kernel
theorem dX12_finish_163 : decode cX12_finish 163 = .ok (.aload_n 0, 1) := by decide +kernel
theorem dX12_finish_164 : decode cX12_finish 164 = .ok (.getfield 48, 3) := by decide +kernel
theorem dX12_finish_167 : decode cX12_finish 167 = .ok (.bipush 8, 2) := by decide +kernel
theorem dX12_finish_169 : decode cX12_finish 169 = .ok (.aload_n 0, 1) := by decide +kernel
theorem dX12_finish_170 : decode cX12_finish 170 = .ok (.iconst 0, 1) := by decide +kernel
theorem dX12_finish_171 : decode cX12_finish 171 = .ok (.iload_n 1, 1) := by decide +kernel
theorem dX12_finish_172 : decode cX12_finish 172 = .ok (.i2l, 1) := by decide +kernel
theorem dX12_finish_173 : decode cX12_finish 173 = .ok (.invokevirtual 234, 3) := by decide +kernel
theorem dX12_finish_176 : decode cX12_finish 176 = .ok (.i2l, 1) := by decide +kernel
theorem dX12_finish_177 : decode cX12_finish 177 = .ok (.lastore, 1) := by decide +kernel
theorem dX12_finish_178 : decode cX12_finish 178 = .ok (.aload_n 0, 1) := by decide +kernel
theorem dX12_finish_179 : decode cX12_finish 179 = .ok (.getfield 78, 3) := by decide +kernel
theorem dX12_finish_182 : decode cX12_finish 182 = .ok (.iload_n 1, 1) := by decide +kernel
theorem dX12_finish_183 : decode cX12_finish 183 = .ok (.iconst 0, 1) := by decide +kernel
theorem dX12_finish_184 : decode cX12_finish 184 = .ok (.iastore, 1) := by decide +kernel
theorem dX12_finish_185 : decode cX12_finish 185 = .ok (.aload_n 0, 1) := by decide +kernel
theorem dX12_finish_186 : decode cX12_finish 186 = .ok (.bipush 10, 2) := by decide +kernel
theorem dX12_finish_188 : decode cX12_finish 188 = .ok (.iload_n 1, 1) := by decide +kernel
theorem dX12_finish_189 : decode cX12_finish 189 = .ok (.invokevirtual 237, 3) := by decide +kernel
theorem dX12_finish_192 : decode cX12_finish 192 = .ok (.return_, 1) := by decide +kernel
theorem dX12_end_0 : decode cX12_end 0 = .ok (.aload_n 0, 1) := by decide +kernel
theorem dX12_end_1 : decode cX12_end 1 = .ok (.getfield 105, 3) := by decide +kernel
theorem dX12_end_4 : decode cX12_end 4 = .ok (.iload_n 1, 1) := by decide +kernel
theorem dX12_end_5 : decode cX12_end 5 = .ok (.iload_n 2, 1) := by decide +kernel
theorem dX12_end_6 : decode cX12_end 6 = .ok (.iastore, 1) := by decide +kernel
theorem dX12_end_7 : decode cX12_end 7 = .ok (.aload_n 0, 1) := by decide +kernel
theorem dX12_end_8 : decode cX12_end 8 = .ok (.getfield 108, 3) := by decide +kernel
theorem dX12_end_11 : decode cX12_end 11 = .ok (.iload_n 1, 1) := by decide +kernel
theorem dX12_end_12 : decode cX12_end 12 = .ok (.iconst 0, 1) := by decide +kernel
theorem dX12_end_13 : decode cX12_end 13 = .ok (.iastore, 1) := by decide +kernel
theorem dX12_end_14 : decode cX12_end 14 = .ok (.return_, 1) := by decide +kernel
theorem dX12_toItsCard_0 : decode cX12_toItsCard 0 = .ok (.aload_n 0, 1) := by decide +kernel
theorem dX12_toItsCard_1 : decode cX12_toItsCard 1 = .ok (.iload_n 2, 1) := by decide +kernel
theorem dX12_toItsCard_2 : decode cX12_toItsCard 2 = .ok (.iconst 1, 1) := by decide +kernel
theorem dX12_toItsCard_3 : decode cX12_toItsCard 3 = .ok (.iload_n 1, 1) := by decide +kernel
theorem dX12_toItsCard_4 : decode cX12_toItsCard 4 = .ok (.iconst 0, 1) := by decide +kernel
theorem dX12_toItsCard_5 : decode cX12_toItsCard 5 = .ok (.aload_n 0, 1) := by decide +kernel
theorem dX12_toItsCard_6 : decode cX12_toItsCard 6 = .ok (.getfield 114, 3) := by decide +kernel
theorem dX12_toItsCard_9 : decode cX12_toItsCard 9 = .ok (.iload_n 1, 1) := by decide +kernel
theorem dX12_toItsCard_10 : decode cX12_toItsCard 10 = .ok (.iaload, 1) := by decide +kernel
theorem dX12_toItsCard_11 : decode cX12_toItsCard 11 = .ok (.invokevirtual 217, 3) := by decide +kernel
theorem dX12_toItsCard_14 : decode cX12_toItsCard 14 = .ok (.pop, 1) := by decide +kernel
theorem dX12_toItsCard_15 : decode cX12_toItsCard 15 = .ok (.aload_n 0, 1) := by decide +kernel
theorem dX12_toItsCard_16 : decode cX12_toItsCard 16 = .ok (.getfield 108, 3) := by decide +kernel
theorem dX12_toItsCard_19 : decode cX12_toItsCard 19 = .ok (.iload_n 1, 1) := by decide +kernel
theorem dX12_toItsCard_20 : decode cX12_toItsCard 20 = .ok (.iload_n 3, 1) := by decide +kernel
theorem dX12_toItsCard_21 : decode cX12_toItsCard 21 = .ok (.iastore, 1) := by decide +kernel
theorem dX12_toItsCard_22 : decode cX12_toItsCard 22 = .ok (.aload_n 0, 1) := by decide +kernel
theorem dX12_toItsCard_23 : decode cX12_toItsCard 23 = .ok (.getfield 111, 3) := by decide +kernel
theorem dX12_toItsCard_26 : decode cX12_toItsCard 26 = .ok (.iload_n 1, 1) := by decide +kernel
theorem dX12_toItsCard_27 : decode cX12_toItsCard 27 = .ok (.aload_n 0, 1) := by decide +kernel
theorem dX12_toItsCard_28 : decode cX12_toItsCard 28 = .ok (.getfield 263, 3) := by decide +kernel
theorem dX12_toItsCard_31 : decode cX12_toItsCard 31 = .ok (.lastore, 1) := by decide +kernel
theorem dX12_toItsCard_32 : decode cX12_toItsCard 32 = .ok (.return_, 1) := by decide +kernel
theorem dX12_ask_0 : decode cX12_ask 0 = .ok (.aload_n 0, 1) := by decide +kernel
theorem dX12_ask_1 : decode cX12_ask 1 = .ok (.getfield 48, 3) := by decide +kernel
theorem dX12_ask_4 : decode cX12_ask 4 = .ok (.iconst 3, 1) := by decide +kernel
theorem dX12_ask_5 : decode cX12_ask 5 = .ok (.aload_n 0, 1) := by decide +kernel
theorem dX12_ask_6 : decode cX12_ask 6 = .ok (.getfield 117, 3) := by decide +kernel
theorem dX12_ask_9 : decode cX12_ask 9 = .ok (.iload_n 1, 1) := by decide +kernel
theorem dX12_ask_10 : decode cX12_ask 10 = .ok (.laload, 1) := by decide +kernel
theorem dX12_ask_11 : decode cX12_ask 11 = .ok (.lastore, 1) := by decide +kernel
theorem dX12_ask_12 : decode cX12_ask 12 = .ok (.aload_n 0, 1) := by decide +kernel
theorem dX12_ask_13 : decode cX12_ask 13 = .ok (.getfield 48, 3) := by decide +kernel
theorem dX12_ask_16 : decode cX12_ask 16 = .ok (.iconst 4, 1) := by decide +kernel
theorem dX12_ask_17 : decode cX12_ask 17 = .ok (.aload_n 0, 1) := by decide +kernel
theorem dX12_ask_18 : decode cX12_ask 18 = .ok (.getfield 120, 3) := by decide +kernel
theorem dX12_ask_21 : decode cX12_ask 21 = .ok (.iload_n 1, 1) := by decide +kernel
theorem dX12_ask_22 : decode cX12_ask 22 = .ok (.laload, 1) := by decide +kernel
theorem dX12_ask_23 : decode cX12_ask 23 = .ok (.lastore, 1) := by decide +kernel
theorem dX12_ask_24 : decode cX12_ask 24 = .ok (.aload_n 0, 1) := by decide +kernel
theorem dX12_ask_25 : decode cX12_ask 25 = .ok (.getfield 48, 3) := by decide +kernel
theorem dX12_ask_28 : decode cX12_ask 28 = .ok (.iconst 5, 1) := by decide +kernel
theorem dX12_ask_29 : decode cX12_ask 29 = .ok (.iload_n 1, 1) := by decide +kernel
theorem dX12_ask_30 : decode cX12_ask 30 = .ok (.i2l, 1) := by decide +kernel
theorem dX12_ask_31 : decode cX12_ask 31 = .ok (.lastore, 1) := by decide +kernel
theorem dX12_ask_32 : decode cX12_ask 32 = .ok (.aload_n 0, 1) := by decide +kernel
theorem dX12_ask_33 : decode cX12_ask 33 = .ok (.getfield 48, 3) := by decide +kernel
theorem dX12_ask_36 : decode cX12_ask 36 = .ok (.bipush 7, 2) := by decide +kernel
theorem dX12_ask_38 : decode cX12_ask 38 = .ok (.aload_n 0, 1) := by decide +kernel
theorem dX12_ask_39 : decode cX12_ask 39 = .ok (.getfield 117, 3) := by decide +kernel
theorem dX12_ask_42 : decode cX12_ask 42 = .ok (.iload_n 1, 1) := by decide +kernel
theorem dX12_ask_43 : decode cX12_ask 43 = .ok (.laload, 1) := by decide +kernel
theorem dX12_ask_44 : decode cX12_ask 44 = .ok (.aload_n 0, 1) := by decide +kernel
theorem dX12_ask_45 : decode cX12_ask 45 = .ok (.getfield 96, 3) := by decide +kernel
theorem dX12_ask_48 : decode cX12_ask 48 = .ok (.iload_n 1, 1) := by decide +kernel
theorem dX12_ask_49 : decode cX12_ask 49 = .ok (.laload, 1) := by decide +kernel
theorem dX12_ask_50 : decode cX12_ask 50 = .ok (.lcmp, 1) := by decide +kernel
theorem dX12_ask_51 : decode cX12_ask 51 = .ok (.ifCond .gt 9, 3) := by decide +kernel
theorem dX12_ask_54 : decode cX12_ask 54 = .ok (.ldc2_w 225, 3) := by decide +kernel
theorem dX12_ask_57 : decode cX12_ask 57 = .ok (.goto 4, 3) := by decide +kernel
theorem dX12_ask_60 : decode cX12_ask 60 = .ok (.lconst 1, 1) := by decide +kernel
theorem dX12_ask_61 : decode cX12_ask 61 = .ok (.lastore, 1) := by decide +kernel
theorem dX12_ask_62 : decode cX12_ask 62 = .ok (.aload_n 0, 1) := by decide +kernel
theorem dX12_ask_63 : decode cX12_ask 63 = .ok (.iload_n 1, 1) := by decide +kernel
theorem dX12_ask_64 : decode cX12_ask 64 = .ok (.iconst 5, 1) := by decide +kernel
theorem dX12_ask_65 : decode cX12_ask 65 = .ok (.bipush 6, 2) := by decide +kernel
theorem dX12_ask_67 : decode cX12_ask 67 = .ok (.invokevirtual 267, 3) := by decide +kernel
theorem dX12_ask_70 : decode cX12_ask 70 = .ok (.return_, 1) := by decide +kernel
theorem dX12_toTerminal_0 : decode cX12_toTerminal 0 = .ok (.aload_n 0, 1) := by decide +kernel
theorem dX12_toTerminal_1 : decode cX12_toTerminal 1 = .ok (.getfield 108, 3) := by decide +kernel
theorem dX12_toTerminal_4 : decode cX12_toTerminal 4 = .ok (.iload_n 1, 1) := by decide +kernel
theorem dX12_toTerminal_5 : decode cX12_toTerminal 5 = .ok (.iaload, 1) := by decide +kernel
theorem dX12_toTerminal_6 : decode cX12_toTerminal 6 = .ok (.iload_n 2, 1) := by decide +kernel
theorem dX12_toTerminal_7 : decode cX12_toTerminal 7 = .ok (.if_icmp .eq 5, 3) := by decide +kernel
theorem dX12_toTerminal_10 : decode cX12_toTerminal 10 = .ok (.iconst 0, 1) := by decide +kernel
theorem dX12_toTerminal_11 : decode cX12_toTerminal 11 = .ok (.ireturn, 1) := by decide +kernel
theorem dX12_toTerminal_12 : decode cX12_toTerminal 12 = .ok (.iload_n 2, 1) := by decide +kernel
theorem dX12_toTerminal_13 : decode cX12_toTerminal 13 = .ok (.tableswitch 98 2 8 #[43, 98, 50, 98, 85, 98, 92], 43) := by decide +kernel
theorem dX12_toTerminal_56 : decode cX12_toTerminal 56 = .ok (.aload_n 0, 1) := by decide +kernel
theorem dX12_toTerminal_57 : decode cX12_toTerminal 57 = .ok (.iload_n 1, 1) := by decide +kernel
theorem dX12_toTerminal_58 : decode cX12_toTerminal 58 = .ok (.invokevirtual 271, 3) := by decide +kernel
theorem dX12_toTerminal_61 : decode cX12_toTerminal 61 = .ok (.iconst 1, 1) := by decide +kernel
theorem dX12_toTerminal_62 : decode cX12_toTerminal 62 = .ok (.ireturn, 1) := by decide +kernel
theorem dX12_toTerminal_63 : decode cX12_toTerminal 63 = .ok (.aload_n 0, 1) := by decide +kernel
theorem dX12_toTerminal_64 : decode cX12_toTerminal 64 = .ok (.getfield 45, 3) := by decide +kernel
theorem dX12_toTerminal_67 : decode cX12_toTerminal 67 = .ok (.bipush 6, 2) := by decide +kernel
theorem dX12_toTerminal_69 : decode cX12_toTerminal 69 = .ok (.laload, 1) := by decide +kernel
theorem dX12_toTerminal_70 : decode cX12_toTerminal 70 = .ok (.lconst 1, 1) := by decide +kernel
theorem dX12_toTerminal_71 : decode cX12_toTerminal 71 = .ok (.lcmp, 1) := by decide +kernel
theorem dX12_toTerminal_72 : decode cX12_toTerminal 72 = .ok (.ifCond .ne 18, 3) := by decide +kernel
theorem dX12_toTerminal_75 : decode cX12_toTerminal 75 = .ok (.aload_n 0, 1) := by decide +kernel
theorem dX12_toTerminal_76 : decode cX12_toTerminal 76 = .ok (.getfield 132, 3) := by decide +kernel
theorem dX12_toTerminal_79 : decode cX12_toTerminal 79 = .ok (.iload_n 1, 1) := by decide +kernel
theorem dX12_toTerminal_80 : decode cX12_toTerminal 80 = .ok (.iconst 1, 1) := by decide +kernel
theorem dX12_toTerminal_81 : decode cX12_toTerminal 81 = .ok (.iastore, 1) := by decide +kernel
theorem dX12_toTerminal_82 : decode cX12_toTerminal 82 = .ok (.aload_n 0, 1) := by decide +kernel
theorem dX12_toTerminal_83 : decode cX12_toTerminal 83 = .ok (.iload_n 1, 1) := by decide +kernel
theorem dX12_toTerminal_84 : decode cX12_toTerminal 84 = .ok (.invokevirtual 274, 3) := by decide +kernel
theorem dX12_toTerminal_87 : decode cX12_toTerminal 87 = .ok (.goto 9, 3) := by decide +kernel
theorem dX12_toTerminal_90 : decode cX12_toTerminal 90 = .ok (.aload_n 0, 1) := by decide +kernel
theorem dX12_toTerminal_91 : decode cX12_toTerminal 91 = .ok (.iload_n 1, 1) := by decide +kernel
theorem dX12_toTerminal_92 : decode cX12_toTerminal 92 = .ok (.iconst 3, 1) := by decide +kernel
theorem dX12_toTerminal_93 : decode cX12_toTerminal 93 = .ok (.invokevirtual 277, 3) := by decide +kernel
theorem dX12_toTerminal_96 : decode cX12_toTerminal 96 = .ok (.iconst 1, 1) := by decide +kernel
theorem dX12_toTerminal_97 : decode cX12_toTerminal 97 = .ok (.ireturn, 1) := by decide +kernel
theorem dX12_toTerminal_98 : decode cX12_toTerminal 98 = .ok (.aload_n 0, 1) := by decide +kernel
theorem dX12_toTerminal_99 : decode cX12_toTerminal 99 = .ok (.iload_n 1, 1) := by decide +kernel
theorem dX12_toTerminal_100 : decode cX12_toTerminal 100 = .ok (.invokevirtual 280, 3) := by decide +kernel
theorem dX12_toTerminal_103 : decode cX12_toTerminal 103 = .ok (.iconst 1, 1) := by decide +kernel
theorem dX12_toTerminal_104 : decode cX12_toTerminal 104 = .ok (.ireturn, 1) := by decide +kernel
theorem dX12_toTerminal_105 : decode cX12_toTerminal 105 = .ok (.aload_n 0, 1) := by decide +kernel
theorem dX12_toTerminal_106 : decode cX12_toTerminal 106 = .ok (.iload_n 1, 1) := by decide +kernel
theorem dX12_toTerminal_107 : decode cX12_toTerminal 107 = .ok (.invokevirtual 283, 3) := by decide +kernel
theorem dX12_toTerminal_110 : decode cX12_toTerminal 110 = .ok (.ireturn, 1) := by decide +kernel
theorem dX12_toTerminal_111 : decode cX12_toTerminal 111 = .ok (.aload_n 0, 1) := by decide +kernel
theorem dX12_toTerminal_112 : decode cX12_toTerminal 112 = .ok (.ldc2_w 261, 3) := by decide +kernel
theorem dX12_toTerminal_115 : decode cX12_toTerminal 115 = .ok (.invokevirtual 227, 3) := by decide +kernel
theorem dX12_toTerminal_118 : decode cX12_toTerminal 118 = .ok (.aload_n 0, 1) := by decide +kernel
theorem dX12_toTerminal_119 : decode cX12_toTerminal 119 = .ok (.ldc2_w 225, 3) := by decide +kernel
theorem dX12_toTerminal_122 : decode cX12_toTerminal 122 = .ok (.invokevirtual 231, 3) := by decide +kernel
theorem dX12_toTerminal_125 : decode cX12_toTerminal 125 = .ok (.aload_n 0, 1) := by decide +kernel
theorem dX12_toTerminal_126 : decode cX12_toTerminal 126 = .ok (.aload_n 0, 1) := by decide +kernel
theorem dX12_toTerminal_127 : decode cX12_toTerminal 127 = .ok (.getfield 117, 3) := by decide +kernel
theorem dX12_toTerminal_130 : decode cX12_toTerminal 130 = .ok (.iload_n 1, 1) := by decide +kernel
theorem dX12_toTerminal_131 : decode cX12_toTerminal 131 = .ok (.laload, 1) := by decide +kernel
theorem dX12_toTerminal_132 : decode cX12_toTerminal 132 = .ok (.invokevirtual 231, 3) := by decide +kernel
theorem dX12_toTerminal_135 : decode cX12_toTerminal 135 = .ok (.aload_n 0, 1) := by decide +kernel
theorem dX12_toTerminal_136 : decode cX12_toTerminal 136 = .ok (.aload_n 0, 1) := by decide +kernel
theorem dX12_toTerminal_137 : decode cX12_toTerminal 137 = .ok (.getfield 120, 3) := by decide +kernel
theorem dX12_toTerminal_140 : decode cX12_toTerminal 140 = .ok (.iload_n 1, 1) := by decide +kernel
theorem dX12_toTerminal_141 : decode cX12_toTerminal 141 = .ok (.laload, 1) := by decide +kernel
theorem dX12_toTerminal_142 : decode cX12_toTerminal 142 = .ok (.invokevirtual 231, 3) := by decide +kernel
theorem dX12_toTerminal_145 : decode cX12_toTerminal 145 = .ok (.aload_n 0, 1) := by decide +kernel
theorem dX12_toTerminal_146 : decode cX12_toTerminal 146 = .ok (.iload_n 1, 1) := by decide +kernel
theorem dX12_toTerminal_147 : decode cX12_toTerminal 147 = .ok (.i2l, 1) := by decide +kernel
theorem dX12_toTerminal_148 : decode cX12_toTerminal 148 = .ok (.invokevirtual 231, 3) := by decide +kernel
theorem dX12_toTerminal_151 : decode cX12_toTerminal 151 = .ok (.aload_n 0, 1) := by decide +kernel
theorem dX12_toTerminal_152 : decode cX12_toTerminal 152 = .ok (.aload_n 0, 1) := by decide +kernel
theorem dX12_toTerminal_153 : decode cX12_toTerminal 153 = .ok (.getfield 135, 3) := by decide +kernel
theorem dX12_toTerminal_156 : decode cX12_toTerminal 156 = .ok (.iload_n 1, 1) := by decide +kernel
theorem dX12_toTerminal_157 : decode cX12_toTerminal 157 = .ok (.iaload, 1) := by decide +kernel
theorem dX12_toTerminal_158 : decode cX12_toTerminal 158 = .ok (.i2l, 1) := by decide +kernel
theorem dX12_toTerminal_159 : decode cX12_toTerminal 159 = .ok (.invokevirtual 231, 3) := by decide +kernel
theorem dX12_toTerminal_162 : decode cX12_toTerminal 162 = .ok (.aload_n 0, 1) := by decide +kernel
theorem dX12_toTerminal_163 : decode cX12_toTerminal 163 = .ok (.getfield 138, 3) := by decide +kernel
theorem dX12_toTerminal_166 : decode cX12_toTerminal 166 = .ok (.iload_n 1, 1) := by decide +kernel
theorem dX12_toTerminal_167 : decode cX12_toTerminal 167 = .ok (.iaload, 1) := by decide +kernel
theorem dX12_toTerminal_168 : decode cX12_toTerminal 168 = .ok (.iconst 1, 1) := by decide +kernel
theorem dX12_toTerminal_169 : decode cX12_toTerminal 169 = .ok (.if_icmp .ne 43, 3) := by decide +kernel
theorem dX12_toTerminal_172 : decode cX12_toTerminal 172 = .ok (.aload_n 0, 1) := by decide +kernel
theorem dX12_toTerminal_173 : decode cX12_toTerminal 173 = .ok (.getfield 45, 3) := by decide +kernel
theorem dX12_toTerminal_176 : decode cX12_toTerminal 176 = .ok (.bipush 7, 2) := by decide +kernel
theorem dX12_toTerminal_178 : decode cX12_toTerminal 178 = .ok (.laload, 1) := by decide +kernel
theorem dX12_toTerminal_179 : decode cX12_toTerminal 179 = .ok (.ldc2_w 225, 3) := by decide +kernel
theorem dX12_toTerminal_182 : decode cX12_toTerminal 182 = .ok (.lcmp, 1) := by decide +kernel
theorem dX12_toTerminal_183 : decode cX12_toTerminal 183 = .ok (.ifCond .ne 29, 3) := by decide +kernel
theorem dX12_toTerminal_186 : decode cX12_toTerminal 186 = .ok (.aload_n 0, 1) := by decide +kernel
theorem dX12_toTerminal_187 : decode cX12_toTerminal 187 = .ok (.iconst 0, 1) := by decide +kernel
theorem dX12_toTerminal_188 : decode cX12_toTerminal 188 = .ok (.aload_n 0, 1) := by decide +kernel
theorem dX12_toTerminal_189 : decode cX12_toTerminal 189 = .ok (.getfield 126, 3) := by decide +kernel
theorem dX12_toTerminal_192 : decode cX12_toTerminal 192 = .ok (.iload_n 1, 1) := by decide +kernel
theorem dX12_toTerminal_193 : decode cX12_toTerminal 193 = .ok (.iaload, 1) := by decide +kernel
theorem dX12_toTerminal_194 : decode cX12_toTerminal 194 = .ok (.i2l, 1) := by decide +kernel
theorem dX12_toTerminal_195 : decode cX12_toTerminal 195 = .ok (.aload_n 0, 1) := by decide +kernel
theorem dX12_toTerminal_196 : decode cX12_toTerminal 196 = .ok (.getfield 45, 3) := by decide +kernel
theorem dX12_toTerminal_199 : decode cX12_toTerminal 199 = .ok (.bipush 8, 2) := by decide +kernel
theorem dX12_toTerminal_201 : decode cX12_toTerminal 201 = .ok (.laload, 1) := by decide +kernel
theorem dX12_toTerminal_202 : decode cX12_toTerminal 202 = .ok (.invokevirtual 257, 3) := by decide +kernel
theorem dX12_toTerminal_205 : decode cX12_toTerminal 205 = .ok (.ifCond .eq 7, 3) := by decide +kernel
theorem dX12_toTerminal_208 : decode cX12_toTerminal 208 = .ok (.iconst 1, 1) := by decide +kernel
theorem dX12_toTerminal_209 : decode cX12_toTerminal 209 = .ok (.goto 4, 3) := by decide +kernel
theorem dX12_toTerminal_212 : decode cX12_toTerminal 212 = .ok (.iconst 0, 1) := by decide +kernel
theorem dX12_toTerminal_213 : decode cX12_toTerminal 213 = .ok (.istore_n 3, 1) := by decide +kernel
theorem dX12_toTerminal_214 : decode cX12_toTerminal 214 = .ok (.aload_n 0, 1) := by decide +kernel
theorem dX12_toTerminal_215 : decode cX12_toTerminal 215 = .ok (.iload_n 1, 1) := by decide +kernel
theorem dX12_toTerminal_216 : decode cX12_toTerminal 216 = .ok (.iload_n 3, 1) := by decide +kernel
theorem dX12_toTerminal_217 : decode cX12_toTerminal 217 = .ok (.ifCond .eq 7, 3) := by decide +kernel
theorem dX12_toTerminal_220 : decode cX12_toTerminal 220 = .ok (.iconst 1, 1) := by decide +kernel
theorem dX12_toTerminal_221 : decode cX12_toTerminal 221 = .ok (.goto 4, 3) := by decide +kernel
theorem dX12_toTerminal_224 : decode cX12_toTerminal 224 = .ok (.iconst 3, 1) := by decide +kernel
theorem dX12_toTerminal_225 : decode cX12_toTerminal 225 = .ok (.invokevirtual 277, 3) := by decide +kernel
theorem dX12_toTerminal_228 : decode cX12_toTerminal 228 = .ok (.iconst 1, 1) := by decide +kernel
theorem dX12_toTerminal_229 : decode cX12_toTerminal 229 = .ok (.ireturn, 1) := by decide +kernel
theorem dX12_takeCard_0 : decode cX12_takeCard 0 = .ok (.aload_n 0, 1) := by decide +kernel
theorem dX12_takeCard_1 : decode cX12_takeCard 1 = .ok (.ldc2_w 225, 3) := by decide +kernel
theorem dX12_takeCard_4 : decode cX12_takeCard 4 = .ok (.invokevirtual 227, 3) := by decide +kernel
theorem dX12_takeCard_7 : decode cX12_takeCard 7 = .ok (.aload_n 0, 1) := by decide +kernel
theorem dX12_takeCard_8 : decode cX12_takeCard 8 = .ok (.aload_n 0, 1) := by decide +kernel
theorem dX12_takeCard_9 : decode cX12_takeCard 9 = .ok (.getfield 45, 3) := by decide +kernel
theorem dX12_takeCard_12 : decode cX12_takeCard 12 = .ok (.iconst 1, 1) := by decide +kernel
theorem dX12_takeCard_13 : decode cX12_takeCard 13 = .ok (.laload, 1) := by decide +kernel
theorem dX12_takeCard_14 : decode cX12_takeCard 14 = .ok (.invokevirtual 231, 3) := by decide +kernel
theorem dX12_takeCard_17 : decode cX12_takeCard 17 = .ok (.aload_n 0, 1) := by decide +kernel
theorem dX12_takeCard_18 : decode cX12_takeCard 18 = .ok (.aload_n 0, 1) := by decide +kernel
theorem dX12_takeCard_19 : decode cX12_takeCard 19 = .ok (.getfield 45, 3) := by decide +kernel
theorem dX12_takeCard_22 : decode cX12_takeCard 22 = .ok (.iconst 2, 1) := by decide +kernel
theorem dX12_takeCard_23 : decode cX12_takeCard 23 = .ok (.laload, 1) := by decide +kernel
theorem dX12_takeCard_24 : decode cX12_takeCard 24 = .ok (.invokevirtual 231, 3) := by decide +kernel
theorem dX12_takeCard_27 : decode cX12_takeCard 27 = .ok (.aload_n 0, 1) := by decide +kernel
theorem dX12_takeCard_28 : decode cX12_takeCard 28 = .ok (.aload_n 0, 1) := by decide +kernel
theorem dX12_takeCard_29 : decode cX12_takeCard 29 = .ok (.getfield 120, 3) := by decide +kernel
theorem dX12_takeCard_32 : decode cX12_takeCard 32 = .ok (.iload_n 1, 1) := by decide +kernel
theorem dX12_takeCard_33 : decode cX12_takeCard 33 = .ok (.laload, 1) := by decide +kernel
theorem dX12_takeCard_34 : decode cX12_takeCard 34 = .ok (.invokevirtual 231, 3) := by decide +kernel
theorem dX12_takeCard_37 : decode cX12_takeCard 37 = .ok (.aload_n 0, 1) := by decide +kernel
theorem dX12_takeCard_38 : decode cX12_takeCard 38 = .ok (.getfield 45, 3) := by decide +kernel
theorem dX12_takeCard_41 : decode cX12_takeCard 41 = .ok (.iconst 1, 1) := by decide +kernel
theorem dX12_takeCard_42 : decode cX12_takeCard 42 = .ok (.laload, 1) := by decide +kernel
theorem dX12_takeCard_43 : decode cX12_takeCard 43 = .ok (.aload_n 0, 1) := by decide +kernel
theorem dX12_takeCard_44 : decode cX12_takeCard 44 = .ok (.getfield 286, 3) := by decide +kernel
theorem dX12_takeCard_47 : decode cX12_takeCard 47 = .ok (.i2l, 1) := by decide +kernel
theorem dX12_takeCard_48 : decode cX12_takeCard 48 = .ok (.lcmp, 1) := by decide +kernel
theorem dX12_takeCard_49 : decode cX12_takeCard 49 = .ok (.ifCond .ge 24, 3) := by decide +kernel
theorem dX12_takeCard_52 : decode cX12_takeCard 52 = .ok (.aload_n 0, 1) := by decide +kernel
theorem dX12_takeCard_53 : decode cX12_takeCard 53 = .ok (.iconst 0, 1) := by decide +kernel
theorem dX12_takeCard_54 : decode cX12_takeCard 54 = .ok (.aload_n 0, 1) := by decide +kernel
theorem dX12_takeCard_55 : decode cX12_takeCard 55 = .ok (.getfield 45, 3) := by decide +kernel
theorem dX12_takeCard_58 : decode cX12_takeCard 58 = .ok (.iconst 1, 1) := by decide +kernel
theorem dX12_takeCard_59 : decode cX12_takeCard 59 = .ok (.laload, 1) := by decide +kernel
theorem dX12_takeCard_60 : decode cX12_takeCard 60 = .ok (.aload_n 0, 1) := by decide +kernel
theorem dX12_takeCard_61 : decode cX12_takeCard 61 = .ok (.getfield 45, 3) := by decide +kernel
theorem dX12_takeCard_64 : decode cX12_takeCard 64 = .ok (.bipush 8, 2) := by decide +kernel
theorem dX12_takeCard_66 : decode cX12_takeCard 66 = .ok (.laload, 1) := by decide +kernel
theorem dX12_takeCard_67 : decode cX12_takeCard 67 = .ok (.invokevirtual 257, 3) := by decide +kernel
theorem dX12_takeCard_70 : decode cX12_takeCard 70 = .ok (.ifCond .ne 10, 3) := by decide +kernel
theorem dX12_takeCard_73 : decode cX12_takeCard 73 = .ok (.aload_n 0, 1) := by decide +kernel
theorem dX12_takeCard_74 : decode cX12_takeCard 74 = .ok (.iload_n 1, 1) := by decide +kernel
theorem dX12_takeCard_75 : decode cX12_takeCard 75 = .ok (.iconst 3, 1) := by decide +kernel
theorem dX12_takeCard_76 : decode cX12_takeCard 76 = .ok (.invokevirtual 277, 3) := by decide +kernel
theorem dX12_takeCard_79 : decode cX12_takeCard 79 = .ok (.return_, 1) := by decide +kernel
theorem dX12_takeCard_80 : decode cX12_takeCard 80 = .ok (.aload_n 0, 1) := by decide +kernel
theorem dX12_takeCard_81 : decode cX12_takeCard 81 = .ok (.getfield 126, 3) := by decide +kernel
theorem dX12_takeCard_84 : decode cX12_takeCard 84 = .ok (.iload_n 1, 1) := by decide +kernel
theorem dX12_takeCard_85 : decode cX12_takeCard 85 = .ok (.aload_n 0, 1) := by decide +kernel
theorem dX12_takeCard_86 : decode cX12_takeCard 86 = .ok (.getfield 45, 3) := by decide +kernel
theorem dX12_takeCard_89 : decode cX12_takeCard 89 = .ok (.iconst 1, 1) := by decide +kernel
theorem dX12_takeCard_90 : decode cX12_takeCard 90 = .ok (.laload, 1) := by decide +kernel
theorem dX12_takeCard_91 : decode cX12_takeCard 91 = .ok (.l2i, 1) := by decide +kernel
theorem dX12_takeCard_92 : decode cX12_takeCard 92 = .ok (.iastore, 1) := by decide +kernel
theorem dX12_takeCard_93 : decode cX12_takeCard 93 = .ok (.aload_n 0, 1) := by decide +kernel
theorem dX12_takeCard_94 : decode cX12_takeCard 94 = .ok (.getfield 129, 3) := by decide +kernel
theorem dX12_takeCard_97 : decode cX12_takeCard 97 = .ok (.iload_n 1, 1) := by decide +kernel
theorem dX12_takeCard_98 : decode cX12_takeCard 98 = .ok (.aload_n 0, 1) := by decide +kernel
theorem dX12_takeCard_99 : decode cX12_takeCard 99 = .ok (.getfield 45, 3) := by decide +kernel
theorem dX12_takeCard_102 : decode cX12_takeCard 102 = .ok (.iconst 2, 1) := by decide +kernel
theorem dX12_takeCard_103 : decode cX12_takeCard 103 = .ok (.laload, 1) := by decide +kernel
theorem dX12_takeCard_104 : decode cX12_takeCard 104 = .ok (.l2i, 1) := by decide +kernel
theorem dX12_takeCard_105 : decode cX12_takeCard 105 = .ok (.iastore, 1) := by decide +kernel
theorem dX12_takeCard_106 : decode cX12_takeCard 106 = .ok (.aload_n 0, 1) := by decide +kernel
theorem dX12_takeCard_107 : decode cX12_takeCard 107 = .ok (.getfield 117, 3) := by decide +kernel
theorem dX12_takeCard_110 : decode cX12_takeCard 110 = .ok (.iload_n 1, 1) := by decide +kernel
theorem dX12_takeCard_111 : decode cX12_takeCard 111 = .ok (.laload, 1) := by decide +kernel
theorem dX12_takeCard_112 : decode cX12_takeCard 112 = .ok (.aload_n 0, 1) := by decide +kernel
theorem dX12_takeCard_113 : decode cX12_takeCard 113 = .ok (.getfield 99, 3) := by decide +kernel
theorem dX12_takeCard_116 : decode cX12_takeCard 116 = .ok (.iload_n 1, 1) := by decide +kernel
theorem dX12_takeCard_117 : decode cX12_takeCard 117 = .ok (.laload, 1) := by decide +kernel
theorem dX12_takeCard_118 : decode cX12_takeCard 118 = .ok (.lcmp, 1) := by decide +kernel
theorem dX12_takeCard_119 : decode cX12_takeCard 119 = .ok (.ifCond .lt 27, 3) := by decide +kernel
theorem dX12_takeCard_122 : decode cX12_takeCard 122 = .ok (.aload_n 0, 1) := by decide +kernel
theorem dX12_takeCard_123 : decode cX12_takeCard 123 = .ok (.getfield 48, 3) := by decide +kernel
theorem dX12_takeCard_126 : decode cX12_takeCard 126 = .ok (.bipush 9, 2) := by decide +kernel
theorem dX12_takeCard_128 : decode cX12_takeCard 128 = .ok (.aload_n 0, 1) := by decide +kernel
theorem dX12_takeCard_129 : decode cX12_takeCard 129 = .ok (.getfield 123, 3) := by decide +kernel
theorem dX12_takeCard_132 : decode cX12_takeCard 132 = .ok (.iload_n 1, 1) := by decide +kernel
theorem dX12_takeCard_133 : decode cX12_takeCard 133 = .ok (.iaload, 1) := by decide +kernel
theorem dX12_takeCard_134 : decode cX12_takeCard 134 = .ok (.i2l, 1) := by decide +kernel
theorem dX12_takeCard_135 : decode cX12_takeCard 135 = .ok (.lastore, 1) := by decide +kernel
theorem dX12_takeCard_136 : decode cX12_takeCard 136 = .ok (.aload_n 0, 1) := by decide +kernel
theorem dX12_takeCard_137 : decode cX12_takeCard 137 = .ok (.iload_n 1, 1) := by decide +kernel
theorem dX12_takeCard_138 : decode cX12_takeCard 138 = .ok (.iconst 3, 1) := by decide +kernel
theorem dX12_takeCard_139 : decode cX12_takeCard 139 = .ok (.iconst 4, 1) := by decide +kernel
theorem dX12_takeCard_140 : decode cX12_takeCard 140 = .ok (.invokevirtual 267, 3) := by decide +kernel
theorem dX12_takeCard_143 : decode cX12_takeCard 143 = .ok (.goto 15, 3) := by decide +kernel
theorem dX12_takeCard_146 : decode cX12_takeCard 146 = .ok (.aload_n 0, 1) := by decide +kernel
theorem dX12_takeCard_147 : decode cX12_takeCard 147 = .ok (.getfield 132, 3) := by decide +kernel
theorem dX12_takeCard_150 : decode cX12_takeCard 150 = .ok (.iload_n 1, 1) := by decide +kernel
theorem dX12_takeCard_151 : decode cX12_takeCard 151 = .ok (.iconst 0, 1) := by decide +kernel
theorem dX12_takeCard_152 : decode cX12_takeCard 152 = .ok (.iastore, 1) := by decide +kernel
theorem dX12_takeCard_153 : decode cX12_takeCard 153 = .ok (.aload_n 0, 1) := by decide +kernel
theorem dX12_takeCard_154 : decode cX12_takeCard 154 = .ok (.iload_n 1, 1) := by decide +kernel
theorem dX12_takeCard_155 : decode cX12_takeCard 155 = .ok (.invokevirtual 274, 3) := by decide +kernel
theorem dX12_takeCard_158 : decode cX12_takeCard 158 = .ok (.return_, 1) := by decide +kernel
theorem dX12_fill_0 : decode cX12_fill 0 = .ok (.aload_n 0, 1) := by decide +kernel
theorem dX12_fill_1 : decode cX12_fill 1 = .ok (.getfield 48, 3) := by decide +kernel
theorem dX12_fill_4 : decode cX12_fill 4 = .ok (.iconst 1, 1) := by decide +kernel
theorem dX12_fill_5 : decode cX12_fill 5 = .ok (.aload_n 0, 1) := by decide +kernel
theorem dX12_fill_6 : decode cX12_fill 6 = .ok (.getfield 126, 3) := by decide +kernel
theorem dX12_fill_9 : decode cX12_fill 9 = .ok (.iload_n 1, 1) := by decide +kernel
theorem dX12_fill_10 : decode cX12_fill 10 = .ok (.iaload, 1) := by decide +kernel
theorem dX12_fill_11 : decode cX12_fill 11 = .ok (.i2l, 1) := by decide +kernel
theorem dX12_fill_12 : decode cX12_fill 12 = .ok (.lastore, 1) := by decide +kernel
theorem dX12_fill_13 : decode cX12_fill 13 = .ok (.aload_n 0, 1) := by decide +kernel
theorem dX12_fill_14 : decode cX12_fill 14 = .ok (.getfield 48, 3) := by decide +kernel
theorem dX12_fill_17 : decode cX12_fill 17 = .ok (.iconst 2, 1) := by decide +kernel
theorem dX12_fill_18 : decode cX12_fill 18 = .ok (.lload_n 2, 1) := by decide +kernel
theorem dX12_fill_19 : decode cX12_fill 19 = .ok (.lastore, 1) := by decide +kernel
theorem dX12_fill_20 : decode cX12_fill 20 = .ok (.aload_n 0, 1) := by decide +kernel
theorem dX12_fill_21 : decode cX12_fill 21 = .ok (.getfield 48, 3) := by decide +kernel
theorem dX12_fill_24 : decode cX12_fill 24 = .ok (.iconst 3, 1) := by decide +kernel
theorem dX12_fill_25 : decode cX12_fill 25 = .ok (.aload_n 0, 1) := by decide +kernel
theorem dX12_fill_26 : decode cX12_fill 26 = .ok (.getfield 117, 3) := by decide +kernel
theorem dX12_fill_29 : decode cX12_fill 29 = .ok (.iload_n 1, 1) := by decide +kernel
theorem dX12_fill_30 : decode cX12_fill 30 = .ok (.laload, 1) := by decide +kernel
theorem dX12_fill_31 : decode cX12_fill 31 = .ok (.lastore, 1) := by decide +kernel
theorem dX12_fill_32 : decode cX12_fill 32 = .ok (.aload_n 0, 1) := by decide +kernel
theorem dX12_fill_33 : decode cX12_fill 33 = .ok (.getfield 48, 3) := by decide +kernel
theorem dX12_fill_36 : decode cX12_fill 36 = .ok (.iconst 4, 1) := by decide +kernel
theorem dX12_fill_37 : decode cX12_fill 37 = .ok (.aload_n 0, 1) := by decide +kernel
theorem dX12_fill_38 : decode cX12_fill 38 = .ok (.getfield 120, 3) := by decide +kernel
theorem dX12_fill_41 : decode cX12_fill 41 = .ok (.iload_n 1, 1) := by decide +kernel
theorem dX12_fill_42 : decode cX12_fill 42 = .ok (.laload, 1) := by decide +kernel
theorem dX12_fill_43 : decode cX12_fill 43 = .ok (.lastore, 1) := by decide +kernel
theorem dX12_fill_44 : decode cX12_fill 44 = .ok (.aload_n 0, 1) := by decide +kernel
theorem dX12_fill_45 : decode cX12_fill 45 = .ok (.getfield 48, 3) := by decide +kernel
theorem dX12_fill_48 : decode cX12_fill 48 = .ok (.iconst 5, 1) := by decide +kernel
theorem dX12_fill_49 : decode cX12_fill 49 = .ok (.iload_n 1, 1) := by decide +kernel
theorem dX12_fill_50 : decode cX12_fill 50 = .ok (.i2l, 1) := by decide +kernel
theorem dX12_fill_51 : decode cX12_fill 51 = .ok (.lastore, 1) := by decide +kernel
theorem dX12_fill_52 : decode cX12_fill 52 = .ok (.aload_n 0, 1) := by decide +kernel
theorem dX12_fill_53 : decode cX12_fill 53 = .ok (.getfield 48, 3) := by decide +kernel
theorem dX12_fill_56 : decode cX12_fill 56 = .ok (.bipush 6, 2) := by decide +kernel
theorem dX12_fill_58 : decode cX12_fill 58 = .ok (.aload_n 0, 1) := by decide +kernel
theorem dX12_fill_59 : decode cX12_fill 59 = .ok (.getfield 132, 3) := by decide +kernel
theorem dX12_fill_62 : decode cX12_fill 62 = .ok (.iload_n 1, 1) := by decide +kernel
theorem dX12_fill_63 : decode cX12_fill 63 = .ok (.iaload, 1) := by decide +kernel
theorem dX12_fill_64 : decode cX12_fill 64 = .ok (.i2l, 1) := by decide +kernel
theorem dX12_fill_65 : decode cX12_fill 65 = .ok (.lastore, 1) := by decide +kernel
theorem dX12_fill_66 : decode cX12_fill 66 = .ok (.aload_n 0, 1) := by decide +kernel
theorem dX12_fill_67 : decode cX12_fill 67 = .ok (.getfield 48, 3) := by decide +kernel
theorem dX12_fill_70 : decode cX12_fill 70 = .ok (.bipush 8, 2) := by decide +kernel
theorem dX12_fill_72 : decode cX12_fill 72 = .ok (.lload 4, 2) := by decide +kernel
theorem dX12_fill_74 : decode cX12_fill 74 = .ok (.lastore, 1) := by decide +kernel
theorem dX12_fill_75 : decode cX12_fill 75 = .ok (.return_, 1) := by decide +kernel
theorem dX12_sign_0 : decode cX12_sign 0 = .ok (.aload_n 0, 1) := by decide +kernel
theorem dX12_sign_1 : decode cX12_sign 1 = .ok (.iload_n 2, 1) := by decide +kernel
theorem dX12_sign_2 : decode cX12_sign 2 = .ok (.i2l, 1) := by decide +kernel
theorem dX12_sign_3 : decode cX12_sign 3 = .ok (.invokevirtual 227, 3) := by decide +kernel
theorem dX12_sign_6 : decode cX12_sign 6 = .ok (.iconst 1, 1) := by decide +kernel
theorem dX12_sign_7 : decode cX12_sign 7 = .ok (.istore_n 3, 1) := by decide +kernel
theorem dX12_sign_8 : decode cX12_sign 8 = .ok (.iload_n 3, 1) := by decide +kernel
theorem dX12_sign_9 : decode cX12_sign 9 = .ok (.bipush 8, 2) := by decide +kernel
theorem dX12_sign_11 : decode cX12_sign 11 = .ok (.if_icmp .gt 25, 3) := by decide +kernel
theorem dX12_sign_14 : decode cX12_sign 14 = .ok (.iload_n 3, 1) := by decide +kernel
theorem dX12_sign_15 : decode cX12_sign 15 = .ok (.bipush 7, 2) := by decide +kernel
theorem dX12_sign_17 : decode cX12_sign 17 = .ok (.if_icmp .eq 13, 3) := by decide +kernel
theorem dX12_sign_20 : decode cX12_sign 20 = .ok (.aload_n 0, 1) := by decide +kernel
theorem dX12_sign_21 : decode cX12_sign 21 = .ok (.aload_n 0, 1) := by decide +kernel
theorem dX12_sign_22 : decode cX12_sign 22 = .ok (.getfield 48, 3) := by decide +kernel
theorem dX12_sign_25 : decode cX12_sign 25 = .ok (.iload_n 3, 1) := by decide +kernel
theorem dX12_sign_26 : decode cX12_sign 26 = .ok (.laload, 1) := by decide +kernel
theorem dX12_sign_27 : decode cX12_sign 27 = .ok (.invokevirtual 231, 3) := by decide +kernel
theorem dX12_sign_30 : decode cX12_sign 30 = .ok (.iinc 3 1, 3) := by decide +kernel
theorem dX12_sign_33 : decode cX12_sign 33 = .ok (.goto (-25), 3) := by decide +kernel
theorem dX12_sign_36 : decode cX12_sign 36 = .ok (.aload_n 0, 1) := by decide +kernel
theorem dX12_sign_37 : decode cX12_sign 37 = .ok (.getfield 48, 3) := by decide +kernel
theorem dX12_sign_40 : decode cX12_sign 40 = .ok (.bipush 11, 2) := by decide +kernel
theorem dX12_sign_42 : decode cX12_sign 42 = .ok (.aload_n 0, 1) := by decide +kernel
theorem dX12_sign_43 : decode cX12_sign 43 = .ok (.iconst 1, 1) := by decide +kernel
theorem dX12_sign_44 : decode cX12_sign 44 = .ok (.iload_n 1, 1) := by decide +kernel
theorem dX12_sign_45 : decode cX12_sign 45 = .ok (.i2l, 1) := by decide +kernel
theorem dX12_sign_46 : decode cX12_sign 46 = .ok (.invokevirtual 234, 3) := by decide +kernel
theorem dX12_sign_49 : decode cX12_sign 49 = .ok (.i2l, 1) := by decide +kernel
theorem dX12_sign_50 : decode cX12_sign 50 = .ok (.lastore, 1) := by decide +kernel
theorem dX12_sign_51 : decode cX12_sign 51 = .ok (.return_, 1) := by decide +kernel
theorem dX12_takeAnswer_0 : decode cX12_takeAnswer 0 = .ok (.aload_n 0, 1) := by decide +kernel
theorem dX12_takeAnswer_1 : decode cX12_takeAnswer 1 = .ok (.getfield 45, 3) := by decide +kernel
theorem dX12_takeAnswer_4 : decode cX12_takeAnswer 4 = .ok (.bipush 7, 2) := by decide +kernel
theorem dX12_takeAnswer_6 : decode cX12_takeAnswer 6 = .ok (.laload, 1) := by decide +kernel
theorem dX12_takeAnswer_7 : decode cX12_takeAnswer 7 = .ok (.lconst 0, 1) := by decide +kernel
theorem dX12_takeAnswer_8 : decode cX12_takeAnswer 8 = .ok (.lcmp, 1) := by decide +kernel
theorem dX12_takeAnswer_9 : decode cX12_takeAnswer 9 = .ok (.ifCond .eq 17, 3) := by decide +kernel
theorem dX12_takeAnswer_12 : decode cX12_takeAnswer 12 = .ok (.aload_n 0, 1) := by decide +kernel
theorem dX12_takeAnswer_13 : decode cX12_takeAnswer 13 = .ok (.getfield 45, 3) := by decide +kernel
theorem dX12_takeAnswer_16 : decode cX12_takeAnswer 16 = .ok (.bipush 7, 2) := by decide +kernel
theorem dX12_takeAnswer_18 : decode cX12_takeAnswer 18 = .ok (.laload, 1) := by decide +kernel
theorem dX12_takeAnswer_19 : decode cX12_takeAnswer 19 = .ok (.ldc2_w 225, 3) := by decide +kernel
theorem dX12_takeAnswer_22 : decode cX12_takeAnswer 22 = .ok (.lcmp, 1) := by decide +kernel
theorem dX12_takeAnswer_23 : decode cX12_takeAnswer 23 = .ok (.ifCond .le 10, 3) := by decide +kernel
theorem dX12_takeAnswer_26 : decode cX12_takeAnswer 26 = .ok (.aload_n 0, 1) := by decide +kernel
theorem dX12_takeAnswer_27 : decode cX12_takeAnswer 27 = .ok (.iload_n 1, 1) := by decide +kernel
theorem dX12_takeAnswer_28 : decode cX12_takeAnswer 28 = .ok (.iconst 3, 1) := by decide +kernel
theorem dX12_takeAnswer_29 : decode cX12_takeAnswer 29 = .ok (.invokevirtual 277, 3) := by decide +kernel
theorem dX12_takeAnswer_32 : decode cX12_takeAnswer 32 = .ok (.return_, 1) := by decide +kernel
theorem dX12_takeAnswer_33 : decode cX12_takeAnswer 33 = .ok (.aload_n 0, 1) := by decide +kernel
theorem dX12_takeAnswer_34 : decode cX12_takeAnswer 34 = .ok (.getfield 45, 3) := by decide +kernel
theorem dX12_takeAnswer_37 : decode cX12_takeAnswer 37 = .ok (.bipush 7, 2) := by decide +kernel
theorem dX12_takeAnswer_39 : decode cX12_takeAnswer 39 = .ok (.laload, 1) := by decide +kernel
theorem dX12_takeAnswer_40 : decode cX12_takeAnswer 40 = .ok (.lconst 1, 1) := by decide +kernel
theorem dX12_takeAnswer_41 : decode cX12_takeAnswer 41 = .ok (.lcmp, 1) := by decide +kernel
theorem dX12_takeAnswer_42 : decode cX12_takeAnswer 42 = .ok (.ifCond .ne 71, 3) := by decide +kernel
theorem dX12_takeAnswer_45 : decode cX12_takeAnswer 45 = .ok (.aload_n 0, 1) := by decide +kernel
theorem dX12_takeAnswer_46 : decode cX12_takeAnswer 46 = .ok (.iload_n 1, 1) := by decide +kernel
theorem dX12_takeAnswer_47 : decode cX12_takeAnswer 47 = .ok (.aload_n 0, 1) := by decide +kernel
theorem dX12_takeAnswer_48 : decode cX12_takeAnswer 48 = .ok (.getfield 45, 3) := by decide +kernel
theorem dX12_takeAnswer_51 : decode cX12_takeAnswer 51 = .ok (.iconst 2, 1) := by decide +kernel
theorem dX12_takeAnswer_52 : decode cX12_takeAnswer 52 = .ok (.laload, 1) := by decide +kernel
theorem dX12_takeAnswer_53 : decode cX12_takeAnswer 53 = .ok (.aload_n 0, 1) := by decide +kernel
theorem dX12_takeAnswer_54 : decode cX12_takeAnswer 54 = .ok (.getfield 45, 3) := by decide +kernel
theorem dX12_takeAnswer_57 : decode cX12_takeAnswer 57 = .ok (.bipush 8, 2) := by decide +kernel
theorem dX12_takeAnswer_59 : decode cX12_takeAnswer 59 = .ok (.laload, 1) := by decide +kernel
theorem dX12_takeAnswer_60 : decode cX12_takeAnswer 60 = .ok (.invokevirtual 289, 3) := by decide +kernel
theorem dX12_takeAnswer_63 : decode cX12_takeAnswer 63 = .ok (.aload_n 0, 1) := by decide +kernel
theorem dX12_takeAnswer_64 : decode cX12_takeAnswer 64 = .ok (.getfield 135, 3) := by decide +kernel
theorem dX12_takeAnswer_67 : decode cX12_takeAnswer 67 = .ok (.iload_n 1, 1) := by decide +kernel
theorem dX12_takeAnswer_68 : decode cX12_takeAnswer 68 = .ok (.aload_n 0, 1) := by decide +kernel
theorem dX12_takeAnswer_69 : decode cX12_takeAnswer 69 = .ok (.getfield 45, 3) := by decide +kernel
theorem dX12_takeAnswer_72 : decode cX12_takeAnswer 72 = .ok (.iconst 2, 1) := by decide +kernel
theorem dX12_takeAnswer_73 : decode cX12_takeAnswer 73 = .ok (.laload, 1) := by decide +kernel
theorem dX12_takeAnswer_74 : decode cX12_takeAnswer 74 = .ok (.l2i, 1) := by decide +kernel
theorem dX12_takeAnswer_75 : decode cX12_takeAnswer 75 = .ok (.iastore, 1) := by decide +kernel
theorem dX12_takeAnswer_76 : decode cX12_takeAnswer 76 = .ok (.aload_n 0, 1) := by decide +kernel
theorem dX12_takeAnswer_77 : decode cX12_takeAnswer 77 = .ok (.iload_n 1, 1) := by decide +kernel
theorem dX12_takeAnswer_78 : decode cX12_takeAnswer 78 = .ok (.bipush 7, 2) := by decide +kernel
theorem dX12_takeAnswer_80 : decode cX12_takeAnswer 80 = .ok (.invokevirtual 293, 3) := by decide +kernel
theorem dX12_takeAnswer_83 : decode cX12_takeAnswer 83 = .ok (.aload_n 0, 1) := by decide +kernel
theorem dX12_takeAnswer_84 : decode cX12_takeAnswer 84 = .ok (.bipush 7, 2) := by decide +kernel
theorem dX12_takeAnswer_86 : decode cX12_takeAnswer 86 = .ok (.iconst 1, 1) := by decide +kernel
theorem dX12_takeAnswer_87 : decode cX12_takeAnswer 87 = .ok (.iload_n 1, 1) := by decide +kernel
theorem dX12_takeAnswer_88 : decode cX12_takeAnswer 88 = .ok (.iconst 2, 1) := by decide +kernel
theorem dX12_takeAnswer_89 : decode cX12_takeAnswer 89 = .ok (.iconst 0, 1) := by decide +kernel
theorem dX12_takeAnswer_90 : decode cX12_takeAnswer 90 = .ok (.invokevirtual 217, 3) := by decide +kernel
theorem dX12_takeAnswer_93 : decode cX12_takeAnswer 93 = .ok (.pop, 1) := by decide +kernel
theorem dX12_takeAnswer_94 : decode cX12_takeAnswer 94 = .ok (.aload_n 0, 1) := by decide +kernel
theorem dX12_takeAnswer_95 : decode cX12_takeAnswer 95 = .ok (.getfield 108, 3) := by decide +kernel
theorem dX12_takeAnswer_98 : decode cX12_takeAnswer 98 = .ok (.iload_n 1, 1) := by decide +kernel
theorem dX12_takeAnswer_99 : decode cX12_takeAnswer 99 = .ok (.bipush 8, 2) := by decide +kernel
theorem dX12_takeAnswer_101 : decode cX12_takeAnswer 101 = .ok (.iastore, 1) := by decide +kernel
theorem dX12_takeAnswer_102 : decode cX12_takeAnswer 102 = .ok (.aload_n 0, 1) := by decide +kernel
theorem dX12_takeAnswer_103 : decode cX12_takeAnswer 103 = .ok (.getfield 111, 3) := by decide +kernel
theorem dX12_takeAnswer_106 : decode cX12_takeAnswer 106 = .ok (.iload_n 1, 1) := by decide +kernel
theorem dX12_takeAnswer_107 : decode cX12_takeAnswer 107 = .ok (.aload_n 0, 1) := by decide +kernel
theorem dX12_takeAnswer_108 : decode cX12_takeAnswer 108 = .ok (.getfield 263, 3) := by decide +kernel
theorem dX12_takeAnswer_111 : decode cX12_takeAnswer 111 = .ok (.lastore, 1) := by decide +kernel
theorem dX12_takeAnswer_112 : decode cX12_takeAnswer 112 = .ok (.return_, 1) := by decide +kernel
theorem dX12_takeAnswer_113 : decode cX12_takeAnswer 113 = .ok (.aload_n 0, 1) := by decide +kernel
theorem dX12_takeAnswer_114 : decode cX12_takeAnswer 114 = .ok (.ldc2_w 250, 3) := by decide +kernel
theorem dX12_takeAnswer_117 : decode cX12_takeAnswer 117 = .ok (.invokevirtual 227, 3) := by decide +kernel
theorem dX12_takeAnswer_120 : decode cX12_takeAnswer 120 = .ok (.aload_n 0, 1) := by decide +kernel
theorem dX12_takeAnswer_121 : decode cX12_takeAnswer 121 = .ok (.ldc2_w 225, 3) := by decide +kernel
theorem dX12_takeAnswer_124 : decode cX12_takeAnswer 124 = .ok (.invokevirtual 231, 3) := by decide +kernel
theorem dX12_takeAnswer_127 : decode cX12_takeAnswer 127 = .ok (.aload_n 0, 1) := by decide +kernel
theorem dX12_takeAnswer_128 : decode cX12_takeAnswer 128 = .ok (.aload_n 0, 1) := by decide +kernel
theorem dX12_takeAnswer_129 : decode cX12_takeAnswer 129 = .ok (.getfield 117, 3) := by decide +kernel
theorem dX12_takeAnswer_132 : decode cX12_takeAnswer 132 = .ok (.iload_n 1, 1) := by decide +kernel
theorem dX12_takeAnswer_133 : decode cX12_takeAnswer 133 = .ok (.laload, 1) := by decide +kernel
theorem dX12_takeAnswer_134 : decode cX12_takeAnswer 134 = .ok (.invokevirtual 231, 3) := by decide +kernel
theorem dX12_takeAnswer_137 : decode cX12_takeAnswer 137 = .ok (.aload_n 0, 1) := by decide +kernel
theorem dX12_takeAnswer_138 : decode cX12_takeAnswer 138 = .ok (.aload_n 0, 1) := by decide +kernel
theorem dX12_takeAnswer_139 : decode cX12_takeAnswer 139 = .ok (.getfield 120, 3) := by decide +kernel
theorem dX12_takeAnswer_142 : decode cX12_takeAnswer 142 = .ok (.iload_n 1, 1) := by decide +kernel
theorem dX12_takeAnswer_143 : decode cX12_takeAnswer 143 = .ok (.laload, 1) := by decide +kernel
theorem dX12_takeAnswer_144 : decode cX12_takeAnswer 144 = .ok (.invokevirtual 231, 3) := by decide +kernel
theorem dX12_takeAnswer_147 : decode cX12_takeAnswer 147 = .ok (.aload_n 0, 1) := by decide +kernel
theorem dX12_takeAnswer_148 : decode cX12_takeAnswer 148 = .ok (.iload_n 1, 1) := by decide +kernel
theorem dX12_takeAnswer_149 : decode cX12_takeAnswer 149 = .ok (.i2l, 1) := by decide +kernel
theorem dX12_takeAnswer_150 : decode cX12_takeAnswer 150 = .ok (.invokevirtual 231, 3) := by decide +kernel
theorem dX12_takeAnswer_153 : decode cX12_takeAnswer 153 = .ok (.aload_n 0, 1) := by decide +kernel
theorem dX12_takeAnswer_154 : decode cX12_takeAnswer 154 = .ok (.aload_n 0, 1) := by decide +kernel
theorem dX12_takeAnswer_155 : decode cX12_takeAnswer 155 = .ok (.getfield 45, 3) := by decide +kernel
theorem dX12_takeAnswer_158 : decode cX12_takeAnswer 158 = .ok (.iconst 2, 1) := by decide +kernel
theorem dX12_takeAnswer_159 : decode cX12_takeAnswer 159 = .ok (.laload, 1) := by decide +kernel
theorem dX12_takeAnswer_160 : decode cX12_takeAnswer 160 = .ok (.invokevirtual 231, 3) := by decide +kernel
theorem dX12_takeAnswer_163 : decode cX12_takeAnswer 163 = .ok (.aload_n 0, 1) := by decide +kernel
theorem dX12_takeAnswer_164 : decode cX12_takeAnswer 164 = .ok (.aload_n 0, 1) := by decide +kernel
theorem dX12_takeAnswer_165 : decode cX12_takeAnswer 165 = .ok (.getfield 132, 3) := by decide +kernel
theorem dX12_takeAnswer_168 : decode cX12_takeAnswer 168 = .ok (.iload_n 1, 1) := by decide +kernel
theorem dX12_takeAnswer_169 : decode cX12_takeAnswer 169 = .ok (.iaload, 1) := by decide +kernel
theorem dX12_takeAnswer_170 : decode cX12_takeAnswer 170 = .ok (.i2l, 1) := by decide +kernel
theorem dX12_takeAnswer_171 : decode cX12_takeAnswer 171 = .ok (.invokevirtual 231, 3) := by decide +kernel
theorem dX12_takeAnswer_174 : decode cX12_takeAnswer 174 = .ok (.aload_n 0, 1) := by decide +kernel
theorem dX12_takeAnswer_175 : decode cX12_takeAnswer 175 = .ok (.getfield 45, 3) := by decide +kernel
theorem dX12_takeAnswer_178 : decode cX12_takeAnswer 178 = .ok (.iconst 2, 1) := by decide +kernel
theorem dX12_takeAnswer_179 : decode cX12_takeAnswer 179 = .ok (.laload, 1) := by decide +kernel
theorem dX12_takeAnswer_180 : decode cX12_takeAnswer 180 = .ok (.aload_n 0, 1) := by decide +kernel
theorem dX12_takeAnswer_181 : decode cX12_takeAnswer 181 = .ok (.getfield 129, 3) := by decide +kernel
theorem dX12_takeAnswer_184 : decode cX12_takeAnswer 184 = .ok (.iload_n 1, 1) := by decide +kernel
theorem dX12_takeAnswer_185 : decode cX12_takeAnswer 185 = .ok (.iaload, 1) := by decide +kernel
theorem dX12_takeAnswer_186 : decode cX12_takeAnswer 186 = .ok (.i2l, 1) := by decide +kernel
theorem dX12_takeAnswer_187 : decode cX12_takeAnswer 187 = .ok (.lcmp, 1) := by decide +kernel
theorem dX12_takeAnswer_188 : decode cX12_takeAnswer 188 = .ok (.ifCond .ne 43, 3) := by decide +kernel
theorem dX12_takeAnswer_191 : decode cX12_takeAnswer 191 = .ok (.aload_n 0, 1) := by decide +kernel
theorem dX12_takeAnswer_192 : decode cX12_takeAnswer 192 = .ok (.getfield 45, 3) := by decide +kernel
theorem dX12_takeAnswer_195 : decode cX12_takeAnswer 195 = .ok (.bipush 6, 2) := by decide +kernel
theorem dX12_takeAnswer_197 : decode cX12_takeAnswer 197 = .ok (.laload, 1) := by decide +kernel
theorem dX12_takeAnswer_198 : decode cX12_takeAnswer 198 = .ok (.aload_n 0, 1) := by decide +kernel
theorem dX12_takeAnswer_199 : decode cX12_takeAnswer 199 = .ok (.getfield 132, 3) := by decide +kernel
theorem dX12_takeAnswer_202 : decode cX12_takeAnswer 202 = .ok (.iload_n 1, 1) := by decide +kernel
theorem dX12_takeAnswer_203 : decode cX12_takeAnswer 203 = .ok (.iaload, 1) := by decide +kernel
theorem dX12_takeAnswer_204 : decode cX12_takeAnswer 204 = .ok (.i2l, 1) := by decide +kernel
theorem dX12_takeAnswer_205 : decode cX12_takeAnswer 205 = .ok (.lcmp, 1) := by decide +kernel
theorem dX12_takeAnswer_206 : decode cX12_takeAnswer 206 = .ok (.ifCond .ne 25, 3) := by decide +kernel
theorem dX12_takeAnswer_209 : decode cX12_takeAnswer 209 = .ok (.aload_n 0, 1) := by decide +kernel
theorem dX12_takeAnswer_210 : decode cX12_takeAnswer 210 = .ok (.iconst 0, 1) := by decide +kernel
theorem dX12_takeAnswer_211 : decode cX12_takeAnswer 211 = .ok (.aload_n 0, 1) := by decide +kernel
theorem dX12_takeAnswer_212 : decode cX12_takeAnswer 212 = .ok (.getfield 126, 3) := by decide +kernel
theorem dX12_takeAnswer_215 : decode cX12_takeAnswer 215 = .ok (.iload_n 1, 1) := by decide +kernel
theorem dX12_takeAnswer_216 : decode cX12_takeAnswer 216 = .ok (.iaload, 1) := by decide +kernel
theorem dX12_takeAnswer_217 : decode cX12_takeAnswer 217 = .ok (.i2l, 1) := by decide +kernel
theorem dX12_takeAnswer_218 : decode cX12_takeAnswer 218 = .ok (.aload_n 0, 1) := by decide +kernel
theorem dX12_takeAnswer_219 : decode cX12_takeAnswer 219 = .ok (.getfield 45, 3) := by decide +kernel
theorem dX12_takeAnswer_222 : decode cX12_takeAnswer 222 = .ok (.bipush 8, 2) := by decide +kernel
theorem dX12_takeAnswer_224 : decode cX12_takeAnswer 224 = .ok (.laload, 1) := by decide +kernel
theorem dX12_takeAnswer_225 : decode cX12_takeAnswer 225 = .ok (.invokevirtual 257, 3) := by decide +kernel
theorem dX12_takeAnswer_228 : decode cX12_takeAnswer 228 = .ok (.ifCond .ne 10, 3) := by decide +kernel
theorem dX12_takeAnswer_231 : decode cX12_takeAnswer 231 = .ok (.aload_n 0, 1) := by decide +kernel
theorem dX12_takeAnswer_232 : decode cX12_takeAnswer 232 = .ok (.iload_n 1, 1) := by decide +kernel
theorem dX12_takeAnswer_233 : decode cX12_takeAnswer 233 = .ok (.iconst 3, 1) := by decide +kernel
theorem dX12_takeAnswer_234 : decode cX12_takeAnswer 234 = .ok (.invokevirtual 277, 3) := by decide +kernel
theorem dX12_takeAnswer_237 : decode cX12_takeAnswer 237 = .ok (.return_, 1) := by decide +kernel
theorem dX12_takeAnswer_238 : decode cX12_takeAnswer 238 = .ok (.aload_n 0, 1) := by decide +kernel
theorem dX12_takeAnswer_239 : decode cX12_takeAnswer 239 = .ok (.iload_n 1, 1) := by decide +kernel
theorem dX12_takeAnswer_240 : decode cX12_takeAnswer 240 = .ok (.aload_n 0, 1) := by decide +kernel
theorem dX12_takeAnswer_241 : decode cX12_takeAnswer 241 = .ok (.getfield 45, 3) := by decide +kernel
theorem dX12_takeAnswer_244 : decode cX12_takeAnswer 244 = .ok (.iconst 2, 1) := by decide +kernel
theorem dX12_takeAnswer_245 : decode cX12_takeAnswer 245 = .ok (.laload, 1) := by decide +kernel
theorem dX12_takeAnswer_246 : decode cX12_takeAnswer 246 = .ok (.aload_n 0, 1) := by decide +kernel
theorem dX12_takeAnswer_247 : decode cX12_takeAnswer 247 = .ok (.getfield 45, 3) := by decide +kernel
theorem dX12_takeAnswer_250 : decode cX12_takeAnswer 250 = .ok (.bipush 8, 2) := by decide +kernel
theorem dX12_takeAnswer_252 : decode cX12_takeAnswer 252 = .ok (.laload, 1) := by decide +kernel
theorem dX12_takeAnswer_253 : decode cX12_takeAnswer 253 = .ok (.invokevirtual 289, 3) := by decide +kernel
theorem dX12_takeAnswer_256 : decode cX12_takeAnswer 256 = .ok (.bipush 7, 2) := by decide +kernel
theorem dX12_takeAnswer_258 : decode cX12_takeAnswer 258 = .ok (.aload_n 0, 1) := by decide +kernel
theorem dX12_takeAnswer_259 : decode cX12_takeAnswer 259 = .ok (.getfield 296, 3) := by decide +kernel
theorem dX12_takeAnswer_262 : decode cX12_takeAnswer 262 = .ok (.imul, 1) := by decide +kernel
theorem dX12_takeAnswer_263 : decode cX12_takeAnswer 263 = .ok (.istore_n 2, 1) := by decide +kernel
theorem dX12_takeAnswer_264 : decode cX12_takeAnswer 264 = .ok (.iconst 0, 1) := by decide +kernel
theorem dX12_takeAnswer_265 : decode cX12_takeAnswer 265 = .ok (.istore_n 3, 1) := by decide +kernel
theorem dX12_takeAnswer_266 : decode cX12_takeAnswer 266 = .ok (.iload_n 3, 1) := by decide +kernel
theorem dX12_takeAnswer_267 : decode cX12_takeAnswer 267 = .ok (.bipush 7, 2) := by decide +kernel
theorem dX12_takeAnswer_269 : decode cX12_takeAnswer 269 = .ok (.if_icmp .ge 36, 3) := by decide +kernel
theorem dX12_takeAnswer_272 : decode cX12_takeAnswer 272 = .ok (.aload_n 0, 1) := by decide +kernel
theorem dX12_takeAnswer_273 : decode cX12_takeAnswer 273 = .ok (.getfield 148, 3) := by decide +kernel
theorem dX12_takeAnswer_276 : decode cX12_takeAnswer 276 = .ok (.iload_n 2, 1) := by decide +kernel
theorem dX12_takeAnswer_277 : decode cX12_takeAnswer 277 = .ok (.iload_n 3, 1) := by decide +kernel
theorem dX12_takeAnswer_278 : decode cX12_takeAnswer 278 = .ok (.iadd, 1) := by decide +kernel
theorem dX12_takeAnswer_279 : decode cX12_takeAnswer 279 = .ok (.aload_n 0, 1) := by decide +kernel
theorem dX12_takeAnswer_280 : decode cX12_takeAnswer 280 = .ok (.getfield 48, 3) := by decide +kernel
theorem dX12_takeAnswer_283 : decode cX12_takeAnswer 283 = .ok (.iload_n 3, 1) := by decide +kernel
theorem dX12_takeAnswer_284 : decode cX12_takeAnswer 284 = .ok (.bipush 6, 2) := by decide +kernel
theorem dX12_takeAnswer_286 : decode cX12_takeAnswer 286 = .ok (.if_icmp .ge 9, 3) := by decide +kernel
theorem dX12_takeAnswer_289 : decode cX12_takeAnswer 289 = .ok (.iload_n 3, 1) := by decide +kernel
theorem dX12_takeAnswer_290 : decode cX12_takeAnswer 290 = .ok (.iconst 1, 1) := by decide +kernel
theorem dX12_takeAnswer_291 : decode cX12_takeAnswer 291 = .ok (.iadd, 1) := by decide +kernel
theorem dX12_takeAnswer_292 : decode cX12_takeAnswer 292 = .ok (.goto 5, 3) := by decide +kernel
theorem dX12_takeAnswer_295 : decode cX12_takeAnswer 295 = .ok (.bipush 8, 2) := by decide +kernel
theorem dX12_takeAnswer_297 : decode cX12_takeAnswer 297 = .ok (.laload, 1) := by decide +kernel
theorem dX12_takeAnswer_298 : decode cX12_takeAnswer 298 = .ok (.lastore, 1) := by decide +kernel
theorem dX12_takeAnswer_299 : decode cX12_takeAnswer 299 = .ok (.iinc 3 1, 3) := by decide +kernel
theorem dX12_takeAnswer_302 : decode cX12_takeAnswer 302 = .ok (.goto (-36), 3) := by decide +kernel
theorem dX12_takeAnswer_305 : decode cX12_takeAnswer 305 = .ok (.aload_n 0, 1) := by decide +kernel
theorem dX12_takeAnswer_306 : decode cX12_takeAnswer 306 = .ok (.getfield 141, 3) := by decide +kernel
theorem dX12_takeAnswer_309 : decode cX12_takeAnswer 309 = .ok (.aload_n 0, 1) := by decide +kernel
theorem dX12_takeAnswer_310 : decode cX12_takeAnswer 310 = .ok (.getfield 296, 3) := by decide +kernel
theorem dX12_takeAnswer_313 : decode cX12_takeAnswer 313 = .ok (.iload_n 1, 1) := by decide +kernel
theorem dX12_takeAnswer_314 : decode cX12_takeAnswer 314 = .ok (.iastore, 1) := by decide +kernel
theorem dX12_takeAnswer_315 : decode cX12_takeAnswer 315 = .ok (.aload_n 0, 1) := by decide +kernel
theorem dX12_takeAnswer_316 : decode cX12_takeAnswer 316 = .ok (.getfield 144, 3) := by decide +kernel
theorem dX12_takeAnswer_319 : decode cX12_takeAnswer 319 = .ok (.aload_n 0, 1) := by decide +kernel
theorem dX12_takeAnswer_320 : decode cX12_takeAnswer 320 = .ok (.getfield 296, 3) := by decide +kernel
theorem dX12_takeAnswer_323 : decode cX12_takeAnswer 323 = .ok (.iconst 0, 1) := by decide +kernel
theorem dX12_takeAnswer_324 : decode cX12_takeAnswer 324 = .ok (.bastore, 1) := by decide +kernel
theorem dX12_takeAnswer_325 : decode cX12_takeAnswer 325 = .ok (.aload_n 0, 1) := by decide +kernel
theorem dX12_takeAnswer_326 : decode cX12_takeAnswer 326 = .ok (.dup, 1) := by decide +kernel
theorem dX12_takeAnswer_327 : decode cX12_takeAnswer 327 = .ok (.getfield 296, 3) := by decide +kernel
theorem dX12_takeAnswer_330 : decode cX12_takeAnswer 330 = .ok (.iconst 1, 1) := by decide +kernel
theorem dX12_takeAnswer_331 : decode cX12_takeAnswer 331 = .ok (.iadd, 1) := by decide +kernel
theorem dX12_takeAnswer_332 : decode cX12_takeAnswer 332 = .ok (.putfield 296, 3) := by decide +kernel
theorem dX12_takeAnswer_335 : decode cX12_takeAnswer 335 = .ok (.aload_n 0, 1) := by decide +kernel
theorem dX12_takeAnswer_336 : decode cX12_takeAnswer 336 = .ok (.iload_n 1, 1) := by decide +kernel
theorem dX12_takeAnswer_337 : decode cX12_takeAnswer 337 = .ok (.iconst 2, 1) := by decide +kernel
theorem dX12_takeAnswer_338 : decode cX12_takeAnswer 338 = .ok (.invokevirtual 277, 3) := by decide +kernel
theorem dX12_takeAnswer_341 : decode cX12_takeAnswer 341 = .ok (.return_, 1) := by decide +kernel
theorem dX12_takeWord_0 : decode cX12_takeWord 0 = .ok (.aload_n 0, 1) := by decide +kernel
theorem dX12_takeWord_1 : decode cX12_takeWord 1 = .ok (.ldc2_w 255, 3) := by decide +kernel
theorem dX12_takeWord_4 : decode cX12_takeWord 4 = .ok (.invokevirtual 227, 3) := by decide +kernel
theorem dX12_takeWord_7 : decode cX12_takeWord 7 = .ok (.aload_n 0, 1) := by decide +kernel
theorem dX12_takeWord_8 : decode cX12_takeWord 8 = .ok (.aload_n 0, 1) := by decide +kernel
theorem dX12_takeWord_9 : decode cX12_takeWord 9 = .ok (.getfield 45, 3) := by decide +kernel
theorem dX12_takeWord_12 : decode cX12_takeWord 12 = .ok (.iconst 1, 1) := by decide +kernel
theorem dX12_takeWord_13 : decode cX12_takeWord 13 = .ok (.laload, 1) := by decide +kernel
theorem dX12_takeWord_14 : decode cX12_takeWord 14 = .ok (.invokevirtual 231, 3) := by decide +kernel
theorem dX12_takeWord_17 : decode cX12_takeWord 17 = .ok (.aload_n 0, 1) := by decide +kernel
theorem dX12_takeWord_18 : decode cX12_takeWord 18 = .ok (.aload_n 0, 1) := by decide +kernel
theorem dX12_takeWord_19 : decode cX12_takeWord 19 = .ok (.getfield 45, 3) := by decide +kernel
theorem dX12_takeWord_22 : decode cX12_takeWord 22 = .ok (.iconst 2, 1) := by decide +kernel
theorem dX12_takeWord_23 : decode cX12_takeWord 23 = .ok (.laload, 1) := by decide +kernel
theorem dX12_takeWord_24 : decode cX12_takeWord 24 = .ok (.invokevirtual 231, 3) := by decide +kernel
theorem dX12_takeWord_27 : decode cX12_takeWord 27 = .ok (.aload_n 0, 1) := by decide +kernel
theorem dX12_takeWord_28 : decode cX12_takeWord 28 = .ok (.aload_n 0, 1) := by decide +kernel
theorem dX12_takeWord_29 : decode cX12_takeWord 29 = .ok (.getfield 45, 3) := by decide +kernel
theorem dX12_takeWord_32 : decode cX12_takeWord 32 = .ok (.bipush 10, 2) := by decide +kernel
theorem dX12_takeWord_34 : decode cX12_takeWord 34 = .ok (.laload, 1) := by decide +kernel
theorem dX12_takeWord_35 : decode cX12_takeWord 35 = .ok (.invokevirtual 231, 3) := by decide +kernel
theorem dX12_takeWord_38 : decode cX12_takeWord 38 = .ok (.aload_n 0, 1) := by decide +kernel
theorem dX12_takeWord_39 : decode cX12_takeWord 39 = .ok (.aload_n 0, 1) := by decide +kernel
theorem dX12_takeWord_40 : decode cX12_takeWord 40 = .ok (.getfield 117, 3) := by decide +kernel
theorem dX12_takeWord_43 : decode cX12_takeWord 43 = .ok (.iload_n 1, 1) := by decide +kernel
theorem dX12_takeWord_44 : decode cX12_takeWord 44 = .ok (.laload, 1) := by decide +kernel
theorem dX12_takeWord_45 : decode cX12_takeWord 45 = .ok (.invokevirtual 231, 3) := by decide +kernel
theorem dX12_takeWord_48 : decode cX12_takeWord 48 = .ok (.aload_n 0, 1) := by decide +kernel
theorem dX12_takeWord_49 : decode cX12_takeWord 49 = .ok (.getfield 45, 3) := by decide +kernel
theorem dX12_takeWord_52 : decode cX12_takeWord 52 = .ok (.iconst 1, 1) := by decide +kernel
theorem dX12_takeWord_53 : decode cX12_takeWord 53 = .ok (.laload, 1) := by decide +kernel
theorem dX12_takeWord_54 : decode cX12_takeWord 54 = .ok (.aload_n 0, 1) := by decide +kernel
theorem dX12_takeWord_55 : decode cX12_takeWord 55 = .ok (.getfield 126, 3) := by decide +kernel
theorem dX12_takeWord_58 : decode cX12_takeWord 58 = .ok (.iload_n 1, 1) := by decide +kernel
theorem dX12_takeWord_59 : decode cX12_takeWord 59 = .ok (.iaload, 1) := by decide +kernel
theorem dX12_takeWord_60 : decode cX12_takeWord 60 = .ok (.i2l, 1) := by decide +kernel
theorem dX12_takeWord_61 : decode cX12_takeWord 61 = .ok (.lcmp, 1) := by decide +kernel
theorem dX12_takeWord_62 : decode cX12_takeWord 62 = .ok (.ifCond .ne 37, 3) := by decide +kernel
theorem dX12_takeWord_65 : decode cX12_takeWord 65 = .ok (.aload_n 0, 1) := by decide +kernel
theorem dX12_takeWord_66 : decode cX12_takeWord 66 = .ok (.getfield 45, 3) := by decide +kernel
theorem dX12_takeWord_69 : decode cX12_takeWord 69 = .ok (.iconst 2, 1) := by decide +kernel
theorem dX12_takeWord_70 : decode cX12_takeWord 70 = .ok (.laload, 1) := by decide +kernel
theorem dX12_takeWord_71 : decode cX12_takeWord 71 = .ok (.aload_n 0, 1) := by decide +kernel
theorem dX12_takeWord_72 : decode cX12_takeWord 72 = .ok (.getfield 135, 3) := by decide +kernel
theorem dX12_takeWord_75 : decode cX12_takeWord 75 = .ok (.iload_n 1, 1) := by decide +kernel
theorem dX12_takeWord_76 : decode cX12_takeWord 76 = .ok (.iaload, 1) := by decide +kernel
theorem dX12_takeWord_77 : decode cX12_takeWord 77 = .ok (.i2l, 1) := by decide +kernel
theorem dX12_takeWord_78 : decode cX12_takeWord 78 = .ok (.lcmp, 1) := by decide +kernel
theorem dX12_takeWord_79 : decode cX12_takeWord 79 = .ok (.ifCond .ne 20, 3) := by decide +kernel
theorem dX12_takeWord_82 : decode cX12_takeWord 82 = .ok (.aload_n 0, 1) := by decide +kernel
theorem dX12_takeWord_83 : decode cX12_takeWord 83 = .ok (.iconst 1, 1) := by decide +kernel
theorem dX12_takeWord_84 : decode cX12_takeWord 84 = .ok (.iload_n 1, 1) := by decide +kernel
theorem dX12_takeWord_85 : decode cX12_takeWord 85 = .ok (.i2l, 1) := by decide +kernel
theorem dX12_takeWord_86 : decode cX12_takeWord 86 = .ok (.aload_n 0, 1) := by decide +kernel
theorem dX12_takeWord_87 : decode cX12_takeWord 87 = .ok (.getfield 45, 3) := by decide +kernel
theorem dX12_takeWord_90 : decode cX12_takeWord 90 = .ok (.bipush 11, 2) := by decide +kernel
theorem dX12_takeWord_92 : decode cX12_takeWord 92 = .ok (.laload, 1) := by decide +kernel
theorem dX12_takeWord_93 : decode cX12_takeWord 93 = .ok (.invokevirtual 257, 3) := by decide +kernel
theorem dX12_takeWord_96 : decode cX12_takeWord 96 = .ok (.ifCond .ne 5, 3) := by decide +kernel
theorem dX12_takeWord_99 : decode cX12_takeWord 99 = .ok (.iconst 0, 1) := by decide +kernel
theorem dX12_takeWord_100 : decode cX12_takeWord 100 = .ok (.ireturn, 1) := by decide +kernel
theorem dX12_takeWord_101 : decode cX12_takeWord 101 = .ok (.aload_n 0, 1) := by decide +kernel
theorem dX12_takeWord_102 : decode cX12_takeWord 102 = .ok (.getfield 138, 3) := by decide +kernel
theorem dX12_takeWord_105 : decode cX12_takeWord 105 = .ok (.iload_n 1, 1) := by decide +kernel
theorem dX12_takeWord_106 : decode cX12_takeWord 106 = .ok (.aload_n 0, 1) := by decide +kernel
theorem dX12_takeWord_107 : decode cX12_takeWord 107 = .ok (.getfield 45, 3) := by decide +kernel
theorem dX12_takeWord_110 : decode cX12_takeWord 110 = .ok (.bipush 10, 2) := by decide +kernel
theorem dX12_takeWord_112 : decode cX12_takeWord 112 = .ok (.laload, 1) := by decide +kernel
theorem dX12_takeWord_113 : decode cX12_takeWord 113 = .ok (.l2i, 1) := by decide +kernel
theorem dX12_takeWord_114 : decode cX12_takeWord 114 = .ok (.iastore, 1) := by decide +kernel
theorem dX12_takeWord_115 : decode cX12_takeWord 115 = .ok (.aload_n 0, 1) := by decide +kernel
theorem dX12_takeWord_116 : decode cX12_takeWord 116 = .ok (.getfield 48, 3) := by decide +kernel
theorem dX12_takeWord_119 : decode cX12_takeWord 119 = .ok (.bipush 8, 2) := by decide +kernel
theorem dX12_takeWord_121 : decode cX12_takeWord 121 = .ok (.aload_n 0, 1) := by decide +kernel
theorem dX12_takeWord_122 : decode cX12_takeWord 122 = .ok (.getfield 45, 3) := by decide +kernel
theorem dX12_takeWord_125 : decode cX12_takeWord 125 = .ok (.bipush 8, 2) := by decide +kernel
theorem dX12_takeWord_127 : decode cX12_takeWord 127 = .ok (.laload, 1) := by decide +kernel
theorem dX12_takeWord_128 : decode cX12_takeWord 128 = .ok (.lastore, 1) := by decide +kernel
theorem dX12_takeWord_129 : decode cX12_takeWord 129 = .ok (.aload_n 0, 1) := by decide +kernel
theorem dX12_takeWord_130 : decode cX12_takeWord 130 = .ok (.getfield 48, 3) := by decide +kernel
theorem dX12_takeWord_133 : decode cX12_takeWord 133 = .ok (.bipush 10, 2) := by decide +kernel
theorem dX12_takeWord_135 : decode cX12_takeWord 135 = .ok (.aload_n 0, 1) := by decide +kernel
theorem dX12_takeWord_136 : decode cX12_takeWord 136 = .ok (.getfield 45, 3) := by decide +kernel
theorem dX12_takeWord_139 : decode cX12_takeWord 139 = .ok (.bipush 10, 2) := by decide +kernel
theorem dX12_takeWord_141 : decode cX12_takeWord 141 = .ok (.laload, 1) := by decide +kernel
theorem dX12_takeWord_142 : decode cX12_takeWord 142 = .ok (.lastore, 1) := by decide +kernel
theorem dX12_takeWord_143 : decode cX12_takeWord 143 = .ok (.aload_n 0, 1) := by decide +kernel
theorem dX12_takeWord_144 : decode cX12_takeWord 144 = .ok (.iload_n 1, 1) := by decide +kernel
theorem dX12_takeWord_145 : decode cX12_takeWord 145 = .ok (.bipush 9, 2) := by decide +kernel
theorem dX12_takeWord_147 : decode cX12_takeWord 147 = .ok (.bipush 10, 2) := by decide +kernel
theorem dX12_takeWord_149 : decode cX12_takeWord 149 = .ok (.invokevirtual 267, 3) := by decide +kernel
theorem dX12_takeWord_152 : decode cX12_takeWord 152 = .ok (.iconst 1, 1) := by decide +kernel
theorem dX12_takeWord_153 : decode cX12_takeWord 153 = .ok (.ireturn, 1) := by decide +kernel
end
section
theorem dX12_isSigned_0 : decode cX12_isSigned 0 = .ok (.aload_n 0, 1) := by decide +kernel
theorem dX12_isSigned_1 : decode cX12_isSigned 1 = .ok (.iload_n 1, 1) := by decide +kernel
theorem dX12_isSigned_2 : decode cX12_isSigned 2 = .ok (.i2l, 1) := by decide +kernel
theorem dX12_isSigned_3 : decode cX12_isSigned 3 = .ok (.invokevirtual 227, 3) := by decide +kernel
theorem dX12_isSigned_6 : decode cX12_isSigned 6 = .ok (.iconst 1, 1) := by decide +kernel
theorem dX12_isSigned_7 : decode cX12_isSigned 7 = .ok (.istore_n 2, 1) := by decide +kernel
theorem dX12_isSigned_8 : decode cX12_isSigned 8 = .ok (.iload_n 2, 1) := by decide +kernel
theorem dX12_isSigned_9 : decode cX12_isSigned 9 = .ok (.bipush 8, 2) := by decide +kernel
theorem dX12_isSigned_11 : decode cX12_isSigned 11 = .ok (.if_icmp .gt 25, 3) := by decide +kernel
theorem dX12_isSigned_14 : decode cX12_isSigned 14 = .ok (.iload_n 2, 1) := by decide +kernel
theorem dX12_isSigned_15 : decode cX12_isSigned 15 = .ok (.bipush 7, 2) := by decide +kernel
theorem dX12_isSigned_17 : decode cX12_isSigned 17 = .ok (.if_icmp .eq 13, 3) := by decide +kernel
theorem dX12_isSigned_20 : decode cX12_isSigned 20 = .ok (.aload_n 0, 1) := by decide +kernel
theorem dX12_isSigned_21 : decode cX12_isSigned 21 = .ok (.aload_n 0, 1) := by decide +kernel
theorem dX12_isSigned_22 : decode cX12_isSigned 22 = .ok (.getfield 45, 3) := by decide +kernel
theorem dX12_isSigned_25 : decode cX12_isSigned 25 = .ok (.iload_n 2, 1) := by decide +kernel
theorem dX12_isSigned_26 : decode cX12_isSigned 26 = .ok (.laload, 1) := by decide +kernel
theorem dX12_isSigned_27 : decode cX12_isSigned 27 = .ok (.invokevirtual 231, 3) := by decide +kernel
theorem dX12_isSigned_30 : decode cX12_isSigned 30 = .ok (.iinc 2 1, 3) := by decide +kernel
theorem dX12_isSigned_33 : decode cX12_isSigned 33 = .ok (.goto (-25), 3) := by decide +kernel
theorem dX12_isSigned_36 : decode cX12_isSigned 36 = .ok (.aload_n 0, 1) := by decide +kernel
theorem dX12_isSigned_37 : decode cX12_isSigned 37 = .ok (.getfield 45, 3) := by decide +kernel
theorem dX12_isSigned_40 : decode cX12_isSigned 40 = .ok (.iconst 5, 1) := by decide +kernel
theorem dX12_isSigned_41 : decode cX12_isSigned 41 = .ok (.laload, 1) := by decide +kernel
theorem dX12_isSigned_42 : decode cX12_isSigned 42 = .ok (.aload_n 0, 1) := by decide +kernel
theorem dX12_isSigned_43 : decode cX12_isSigned 43 = .ok (.getfield 299, 3) := by decide +kernel
theorem dX12_isSigned_46 : decode cX12_isSigned 46 = .ok (.i2l, 1) := by decide +kernel
theorem dX12_isSigned_47 : decode cX12_isSigned 47 = .ok (.lcmp, 1) := by decide +kernel
theorem dX12_isSigned_48 : decode cX12_isSigned 48 = .ok (.ifCond .ge 28, 3) := by decide +kernel
theorem dX12_isSigned_51 : decode cX12_isSigned 51 = .ok (.aload_n 0, 1) := by decide +kernel
theorem dX12_isSigned_52 : decode cX12_isSigned 52 = .ok (.iconst 1, 1) := by decide +kernel
theorem dX12_isSigned_53 : decode cX12_isSigned 53 = .ok (.aload_n 0, 1) := by decide +kernel
theorem dX12_isSigned_54 : decode cX12_isSigned 54 = .ok (.getfield 45, 3) := by decide +kernel
theorem dX12_isSigned_57 : decode cX12_isSigned 57 = .ok (.iconst 5, 1) := by decide +kernel
theorem dX12_isSigned_58 : decode cX12_isSigned 58 = .ok (.laload, 1) := by decide +kernel
theorem dX12_isSigned_59 : decode cX12_isSigned 59 = .ok (.aload_n 0, 1) := by decide +kernel
theorem dX12_isSigned_60 : decode cX12_isSigned 60 = .ok (.getfield 45, 3) := by decide +kernel
theorem dX12_isSigned_63 : decode cX12_isSigned 63 = .ok (.bipush 11, 2) := by decide +kernel
theorem dX12_isSigned_65 : decode cX12_isSigned 65 = .ok (.laload, 1) := by decide +kernel
theorem dX12_isSigned_66 : decode cX12_isSigned 66 = .ok (.invokevirtual 257, 3) := by decide +kernel
theorem dX12_isSigned_69 : decode cX12_isSigned 69 = .ok (.ifCond .eq 7, 3) := by decide +kernel
theorem dX12_isSigned_72 : decode cX12_isSigned 72 = .ok (.iconst 1, 1) := by decide +kernel
theorem dX12_isSigned_73 : decode cX12_isSigned 73 = .ok (.goto 4, 3) := by decide +kernel
theorem dX12_isSigned_76 : decode cX12_isSigned 76 = .ok (.iconst 0, 1) := by decide +kernel
theorem dX12_isSigned_77 : decode cX12_isSigned 77 = .ok (.ireturn, 1) := by decide +kernel
theorem dX12_isAnswer_0 : decode cX12_isAnswer 0 = .ok (.aload_n 0, 1) := by decide +kernel
theorem dX12_isAnswer_1 : decode cX12_isAnswer 1 = .ok (.ldc2_w 250, 3) := by decide +kernel
theorem dX12_isAnswer_4 : decode cX12_isAnswer 4 = .ok (.invokevirtual 227, 3) := by decide +kernel
theorem dX12_isAnswer_7 : decode cX12_isAnswer 7 = .ok (.aload_n 0, 1) := by decide +kernel
theorem dX12_isAnswer_8 : decode cX12_isAnswer 8 = .ok (.iload_n 1, 1) := by decide +kernel
theorem dX12_isAnswer_9 : decode cX12_isAnswer 9 = .ok (.i2l, 1) := by decide +kernel
theorem dX12_isAnswer_10 : decode cX12_isAnswer 10 = .ok (.invokevirtual 231, 3) := by decide +kernel
theorem dX12_isAnswer_13 : decode cX12_isAnswer 13 = .ok (.aload_n 0, 1) := by decide +kernel
theorem dX12_isAnswer_14 : decode cX12_isAnswer 14 = .ok (.aload_n 0, 1) := by decide +kernel
theorem dX12_isAnswer_15 : decode cX12_isAnswer 15 = .ok (.getfield 45, 3) := by decide +kernel
theorem dX12_isAnswer_18 : decode cX12_isAnswer 18 = .ok (.iconst 3, 1) := by decide +kernel
theorem dX12_isAnswer_19 : decode cX12_isAnswer 19 = .ok (.laload, 1) := by decide +kernel
theorem dX12_isAnswer_20 : decode cX12_isAnswer 20 = .ok (.invokevirtual 231, 3) := by decide +kernel
theorem dX12_isAnswer_23 : decode cX12_isAnswer 23 = .ok (.aload_n 0, 1) := by decide +kernel
theorem dX12_isAnswer_24 : decode cX12_isAnswer 24 = .ok (.aload_n 0, 1) := by decide +kernel
theorem dX12_isAnswer_25 : decode cX12_isAnswer 25 = .ok (.getfield 45, 3) := by decide +kernel
theorem dX12_isAnswer_28 : decode cX12_isAnswer 28 = .ok (.iconst 4, 1) := by decide +kernel
theorem dX12_isAnswer_29 : decode cX12_isAnswer 29 = .ok (.laload, 1) := by decide +kernel
theorem dX12_isAnswer_30 : decode cX12_isAnswer 30 = .ok (.invokevirtual 231, 3) := by decide +kernel
theorem dX12_isAnswer_33 : decode cX12_isAnswer 33 = .ok (.aload_n 0, 1) := by decide +kernel
theorem dX12_isAnswer_34 : decode cX12_isAnswer 34 = .ok (.aload_n 0, 1) := by decide +kernel
theorem dX12_isAnswer_35 : decode cX12_isAnswer 35 = .ok (.getfield 45, 3) := by decide +kernel
theorem dX12_isAnswer_38 : decode cX12_isAnswer 38 = .ok (.iconst 5, 1) := by decide +kernel
theorem dX12_isAnswer_39 : decode cX12_isAnswer 39 = .ok (.laload, 1) := by decide +kernel
theorem dX12_isAnswer_40 : decode cX12_isAnswer 40 = .ok (.invokevirtual 231, 3) := by decide +kernel
theorem dX12_isAnswer_43 : decode cX12_isAnswer 43 = .ok (.aload_n 0, 1) := by decide +kernel
theorem dX12_isAnswer_44 : decode cX12_isAnswer 44 = .ok (.aload_n 0, 1) := by decide +kernel
theorem dX12_isAnswer_45 : decode cX12_isAnswer 45 = .ok (.getfield 45, 3) := by decide +kernel
theorem dX12_isAnswer_48 : decode cX12_isAnswer 48 = .ok (.iconst 2, 1) := by decide +kernel
theorem dX12_isAnswer_49 : decode cX12_isAnswer 49 = .ok (.laload, 1) := by decide +kernel
theorem dX12_isAnswer_50 : decode cX12_isAnswer 50 = .ok (.invokevirtual 231, 3) := by decide +kernel
theorem dX12_isAnswer_53 : decode cX12_isAnswer 53 = .ok (.aload_n 0, 1) := by decide +kernel
theorem dX12_isAnswer_54 : decode cX12_isAnswer 54 = .ok (.aload_n 0, 1) := by decide +kernel
theorem dX12_isAnswer_55 : decode cX12_isAnswer 55 = .ok (.getfield 45, 3) := by decide +kernel
theorem dX12_isAnswer_58 : decode cX12_isAnswer 58 = .ok (.bipush 6, 2) := by decide +kernel
theorem dX12_isAnswer_60 : decode cX12_isAnswer 60 = .ok (.laload, 1) := by decide +kernel
theorem dX12_isAnswer_61 : decode cX12_isAnswer 61 = .ok (.invokevirtual 231, 3) := by decide +kernel
theorem dX12_isAnswer_64 : decode cX12_isAnswer 64 = .ok (.aload_n 0, 1) := by decide +kernel
theorem dX12_isAnswer_65 : decode cX12_isAnswer 65 = .ok (.getfield 45, 3) := by decide +kernel
theorem dX12_isAnswer_68 : decode cX12_isAnswer 68 = .ok (.iconst 1, 1) := by decide +kernel
theorem dX12_isAnswer_69 : decode cX12_isAnswer 69 = .ok (.laload, 1) := by decide +kernel
theorem dX12_isAnswer_70 : decode cX12_isAnswer 70 = .ok (.aload_n 0, 1) := by decide +kernel
theorem dX12_isAnswer_71 : decode cX12_isAnswer 71 = .ok (.getfield 286, 3) := by decide +kernel
theorem dX12_isAnswer_74 : decode cX12_isAnswer 74 = .ok (.i2l, 1) := by decide +kernel
theorem dX12_isAnswer_75 : decode cX12_isAnswer 75 = .ok (.lcmp, 1) := by decide +kernel
theorem dX12_isAnswer_76 : decode cX12_isAnswer 76 = .ok (.ifCond .ge 28, 3) := by decide +kernel
theorem dX12_isAnswer_79 : decode cX12_isAnswer 79 = .ok (.aload_n 0, 1) := by decide +kernel
theorem dX12_isAnswer_80 : decode cX12_isAnswer 80 = .ok (.iconst 0, 1) := by decide +kernel
theorem dX12_isAnswer_81 : decode cX12_isAnswer 81 = .ok (.aload_n 0, 1) := by decide +kernel
theorem dX12_isAnswer_82 : decode cX12_isAnswer 82 = .ok (.getfield 45, 3) := by decide +kernel
theorem dX12_isAnswer_85 : decode cX12_isAnswer 85 = .ok (.iconst 1, 1) := by decide +kernel
theorem dX12_isAnswer_86 : decode cX12_isAnswer 86 = .ok (.laload, 1) := by decide +kernel
theorem dX12_isAnswer_87 : decode cX12_isAnswer 87 = .ok (.aload_n 0, 1) := by decide +kernel
theorem dX12_isAnswer_88 : decode cX12_isAnswer 88 = .ok (.getfield 45, 3) := by decide +kernel
theorem dX12_isAnswer_91 : decode cX12_isAnswer 91 = .ok (.bipush 8, 2) := by decide +kernel
theorem dX12_isAnswer_93 : decode cX12_isAnswer 93 = .ok (.laload, 1) := by decide +kernel
theorem dX12_isAnswer_94 : decode cX12_isAnswer 94 = .ok (.invokevirtual 257, 3) := by decide +kernel
theorem dX12_isAnswer_97 : decode cX12_isAnswer 97 = .ok (.ifCond .eq 7, 3) := by decide +kernel
theorem dX12_isAnswer_100 : decode cX12_isAnswer 100 = .ok (.iconst 1, 1) := by decide +kernel
theorem dX12_isAnswer_101 : decode cX12_isAnswer 101 = .ok (.goto 4, 3) := by decide +kernel
theorem dX12_isAnswer_104 : decode cX12_isAnswer 104 = .ok (.iconst 0, 1) := by decide +kernel
theorem dX12_isAnswer_105 : decode cX12_isAnswer 105 = .ok (.ireturn, 1) := by decide +kernel
theorem dX12_debit_0 : decode cX12_debit 0 = .ok (.aload_n 0, 1) := by decide +kernel
theorem dX12_debit_1 : decode cX12_debit 1 = .ok (.getfield 45, 3) := by decide +kernel
theorem dX12_debit_4 : decode cX12_debit 4 = .ok (.iconst 1, 1) := by decide +kernel
theorem dX12_debit_5 : decode cX12_debit 5 = .ok (.laload, 1) := by decide +kernel
theorem dX12_debit_6 : decode cX12_debit 6 = .ok (.l2i, 1) := by decide +kernel
theorem dX12_debit_7 : decode cX12_debit 7 = .ok (.istore_n 2, 1) := by decide +kernel
theorem dX12_debit_8 : decode cX12_debit 8 = .ok (.aload_n 0, 1) := by decide +kernel
theorem dX12_debit_9 : decode cX12_debit 9 = .ok (.getfield 63, 3) := by decide +kernel
theorem dX12_debit_12 : decode cX12_debit 12 = .ok (.iload_n 2, 1) := by decide +kernel
theorem dX12_debit_13 : decode cX12_debit 13 = .ok (.dup2, 1) := by decide +kernel
theorem dX12_debit_14 : decode cX12_debit 14 = .ok (.laload, 1) := by decide +kernel
theorem dX12_debit_15 : decode cX12_debit 15 = .ok (.aload_n 0, 1) := by decide +kernel
theorem dX12_debit_16 : decode cX12_debit 16 = .ok (.getfield 45, 3) := by decide +kernel
theorem dX12_debit_19 : decode cX12_debit 19 = .ok (.iconst 3, 1) := by decide +kernel
theorem dX12_debit_20 : decode cX12_debit 20 = .ok (.laload, 1) := by decide +kernel
theorem dX12_debit_21 : decode cX12_debit 21 = .ok (.lsub, 1) := by decide +kernel
theorem dX12_debit_22 : decode cX12_debit 22 = .ok (.lastore, 1) := by decide +kernel
theorem dX12_debit_23 : decode cX12_debit 23 = .ok (.bipush 7, 2) := by decide +kernel
theorem dX12_debit_25 : decode cX12_debit 25 = .ok (.aload_n 0, 1) := by decide +kernel
theorem dX12_debit_26 : decode cX12_debit 26 = .ok (.getfield 302, 3) := by decide +kernel
theorem dX12_debit_29 : decode cX12_debit 29 = .ok (.imul, 1) := by decide +kernel
theorem dX12_debit_30 : decode cX12_debit 30 = .ok (.istore_n 3, 1) := by decide +kernel
theorem dX12_debit_31 : decode cX12_debit 31 = .ok (.aload_n 0, 1) := by decide +kernel
theorem dX12_debit_32 : decode cX12_debit 32 = .ok (.getfield 157, 3) := by decide +kernel
theorem dX12_debit_35 : decode cX12_debit 35 = .ok (.iload_n 3, 1) := by decide +kernel
theorem dX12_debit_36 : decode cX12_debit 36 = .ok (.iload_n 2, 1) := by decide +kernel
theorem dX12_debit_37 : decode cX12_debit 37 = .ok (.i2l, 1) := by decide +kernel
theorem dX12_debit_38 : decode cX12_debit 38 = .ok (.lastore, 1) := by decide +kernel
theorem dX12_debit_39 : decode cX12_debit 39 = .ok (.aload_n 0, 1) := by decide +kernel
theorem dX12_debit_40 : decode cX12_debit 40 = .ok (.getfield 157, 3) := by decide +kernel
theorem dX12_debit_43 : decode cX12_debit 43 = .ok (.iload_n 3, 1) := by decide +kernel
theorem dX12_debit_44 : decode cX12_debit 44 = .ok (.iconst 1, 1) := by decide +kernel
theorem dX12_debit_45 : decode cX12_debit 45 = .ok (.iadd, 1) := by decide +kernel
theorem dX12_debit_46 : decode cX12_debit 46 = .ok (.aload_n 0, 1) := by decide +kernel
theorem dX12_debit_47 : decode cX12_debit 47 = .ok (.getfield 45, 3) := by decide +kernel
theorem dX12_debit_50 : decode cX12_debit 50 = .ok (.iconst 2, 1) := by decide +kernel
theorem dX12_debit_51 : decode cX12_debit 51 = .ok (.laload, 1) := by decide +kernel
theorem dX12_debit_52 : decode cX12_debit 52 = .ok (.lastore, 1) := by decide +kernel
theorem dX12_debit_53 : decode cX12_debit 53 = .ok (.aload_n 0, 1) := by decide +kernel
theorem dX12_debit_54 : decode cX12_debit 54 = .ok (.getfield 157, 3) := by decide +kernel
theorem dX12_debit_57 : decode cX12_debit 57 = .ok (.iload_n 3, 1) := by decide +kernel
theorem dX12_debit_58 : decode cX12_debit 58 = .ok (.iconst 2, 1) := by decide +kernel
theorem dX12_debit_59 : decode cX12_debit 59 = .ok (.iadd, 1) := by decide +kernel
theorem dX12_debit_60 : decode cX12_debit 60 = .ok (.aload_n 0, 1) := by decide +kernel
theorem dX12_debit_61 : decode cX12_debit 61 = .ok (.getfield 45, 3) := by decide +kernel
theorem dX12_debit_64 : decode cX12_debit 64 = .ok (.iconst 3, 1) := by decide +kernel
theorem dX12_debit_65 : decode cX12_debit 65 = .ok (.laload, 1) := by decide +kernel
theorem dX12_debit_66 : decode cX12_debit 66 = .ok (.lastore, 1) := by decide +kernel
theorem dX12_debit_67 : decode cX12_debit 67 = .ok (.aload_n 0, 1) := by decide +kernel
theorem dX12_debit_68 : decode cX12_debit 68 = .ok (.getfield 157, 3) := by decide +kernel
theorem dX12_debit_71 : decode cX12_debit 71 = .ok (.iload_n 3, 1) := by decide +kernel
theorem dX12_debit_72 : decode cX12_debit 72 = .ok (.iconst 3, 1) := by decide +kernel
theorem dX12_debit_73 : decode cX12_debit 73 = .ok (.iadd, 1) := by decide +kernel
theorem dX12_debit_74 : decode cX12_debit 74 = .ok (.aload_n 0, 1) := by decide +kernel
theorem dX12_debit_75 : decode cX12_debit 75 = .ok (.getfield 45, 3) := by decide +kernel
theorem dX12_debit_78 : decode cX12_debit 78 = .ok (.iconst 4, 1) := by decide +kernel
theorem dX12_debit_79 : decode cX12_debit 79 = .ok (.laload, 1) := by decide +kernel
theorem dX12_debit_80 : decode cX12_debit 80 = .ok (.lastore, 1) := by decide +kernel
theorem dX12_debit_81 : decode cX12_debit 81 = .ok (.aload_n 0, 1) := by decide +kernel
theorem dX12_debit_82 : decode cX12_debit 82 = .ok (.getfield 157, 3) := by decide +kernel
theorem dX12_debit_85 : decode cX12_debit 85 = .ok (.iload_n 3, 1) := by decide +kernel
theorem dX12_debit_86 : decode cX12_debit 86 = .ok (.iconst 4, 1) := by decide +kernel
theorem dX12_debit_87 : decode cX12_debit 87 = .ok (.iadd, 1) := by decide +kernel
theorem dX12_debit_88 : decode cX12_debit 88 = .ok (.aload_n 0, 1) := by decide +kernel
theorem dX12_debit_89 : decode cX12_debit 89 = .ok (.getfield 45, 3) := by decide +kernel
theorem dX12_debit_92 : decode cX12_debit 92 = .ok (.iconst 5, 1) := by decide +kernel
theorem dX12_debit_93 : decode cX12_debit 93 = .ok (.laload, 1) := by decide +kernel
theorem dX12_debit_94 : decode cX12_debit 94 = .ok (.lastore, 1) := by decide +kernel
theorem dX12_debit_95 : decode cX12_debit 95 = .ok (.aload_n 0, 1) := by decide +kernel
theorem dX12_debit_96 : decode cX12_debit 96 = .ok (.getfield 157, 3) := by decide +kernel
theorem dX12_debit_99 : decode cX12_debit 99 = .ok (.iload_n 3, 1) := by decide +kernel
theorem dX12_debit_100 : decode cX12_debit 100 = .ok (.iconst 5, 1) := by decide +kernel
theorem dX12_debit_101 : decode cX12_debit 101 = .ok (.iadd, 1) := by decide +kernel
theorem dX12_debit_102 : decode cX12_debit 102 = .ok (.aload_n 0, 1) := by decide +kernel
theorem dX12_debit_103 : decode cX12_debit 103 = .ok (.getfield 45, 3) := by decide +kernel
theorem dX12_debit_106 : decode cX12_debit 106 = .ok (.bipush 6, 2) := by decide +kernel
theorem dX12_debit_108 : decode cX12_debit 108 = .ok (.laload, 1) := by decide +kernel
theorem dX12_debit_109 : decode cX12_debit 109 = .ok (.lastore, 1) := by decide +kernel
theorem dX12_debit_110 : decode cX12_debit 110 = .ok (.aload_n 0, 1) := by decide +kernel
theorem dX12_debit_111 : decode cX12_debit 111 = .ok (.getfield 157, 3) := by decide +kernel
theorem dX12_debit_114 : decode cX12_debit 114 = .ok (.iload_n 3, 1) := by decide +kernel
theorem dX12_debit_115 : decode cX12_debit 115 = .ok (.bipush 6, 2) := by decide +kernel
theorem dX12_debit_117 : decode cX12_debit 117 = .ok (.iadd, 1) := by decide +kernel
theorem dX12_debit_118 : decode cX12_debit 118 = .ok (.iload_n 1, 1) := by decide +kernel
theorem dX12_debit_119 : decode cX12_debit 119 = .ok (.i2l, 1) := by decide +kernel
theorem dX12_debit_120 : decode cX12_debit 120 = .ok (.lastore, 1) := by decide +kernel
theorem dX12_debit_121 : decode cX12_debit 121 = .ok (.aload_n 0, 1) := by decide +kernel
theorem dX12_debit_122 : decode cX12_debit 122 = .ok (.dup, 1) := by decide +kernel
theorem dX12_debit_123 : decode cX12_debit 123 = .ok (.getfield 302, 3) := by decide +kernel
theorem dX12_debit_126 : decode cX12_debit 126 = .ok (.iconst 1, 1) := by decide +kernel
theorem dX12_debit_127 : decode cX12_debit 127 = .ok (.iadd, 1) := by decide +kernel
theorem dX12_debit_128 : decode cX12_debit 128 = .ok (.putfield 302, 3) := by decide +kernel
theorem dX12_debit_131 : decode cX12_debit 131 = .ok (.return_, 1) := by decide +kernel
theorem dX12_toHost_0 : decode cX12_toHost 0 = .ok (.iload_n 1, 1) := by decide +kernel
theorem dX12_toHost_1 : decode cX12_toHost 1 = .ok (.bipush 7, 2) := by decide +kernel
theorem dX12_toHost_3 : decode cX12_toHost 3 = .ok (.if_icmp .eq 9, 3) := by decide +kernel
theorem dX12_toHost_6 : decode cX12_toHost 6 = .ok (.iload_n 1, 1) := by decide +kernel
theorem dX12_toHost_7 : decode cX12_toHost 7 = .ok (.bipush 11, 2) := by decide +kernel
theorem dX12_toHost_9 : decode cX12_toHost 9 = .ok (.if_icmp .ne 11, 3) := by decide +kernel
theorem dX12_toHost_12 : decode cX12_toHost 12 = .ok (.aload_n 0, 1) := by decide +kernel
theorem dX12_toHost_13 : decode cX12_toHost 13 = .ok (.iload_n 1, 1) := by decide +kernel
theorem dX12_toHost_14 : decode cX12_toHost 14 = .ok (.invokevirtual 305, 3) := by decide +kernel
theorem dX12_toHost_17 : decode cX12_toHost 17 = .ok (.ifCond .ne 5, 3) := by decide +kernel
theorem dX12_toHost_20 : decode cX12_toHost 20 = .ok (.iconst 0, 1) := by decide +kernel
theorem dX12_toHost_21 : decode cX12_toHost 21 = .ok (.ireturn, 1) := by decide +kernel
theorem dX12_toHost_22 : decode cX12_toHost 22 = .ok (.iload_n 1, 1) := by decide +kernel
theorem dX12_toHost_23 : decode cX12_toHost 23 = .ok (.bipush 11, 2) := by decide +kernel
theorem dX12_toHost_25 : decode cX12_toHost 25 = .ok (.if_icmp .ne 86, 3) := by decide +kernel
theorem dX12_toHost_28 : decode cX12_toHost 28 = .ok (.aload_n 0, 1) := by decide +kernel
theorem dX12_toHost_29 : decode cX12_toHost 29 = .ok (.iconst 2, 1) := by decide +kernel
theorem dX12_toHost_30 : decode cX12_toHost 30 = .ok (.invokevirtual 308, 3) := by decide +kernel
theorem dX12_toHost_33 : decode cX12_toHost 33 = .ok (.istore_n 2, 1) := by decide +kernel
theorem dX12_toHost_34 : decode cX12_toHost 34 = .ok (.iconst 0, 1) := by decide +kernel
theorem dX12_toHost_35 : decode cX12_toHost 35 = .ok (.istore_n 3, 1) := by decide +kernel
theorem dX12_toHost_36 : decode cX12_toHost 36 = .ok (.iload_n 3, 1) := by decide +kernel
theorem dX12_toHost_37 : decode cX12_toHost 37 = .ok (.aload_n 0, 1) := by decide +kernel
theorem dX12_toHost_38 : decode cX12_toHost 38 = .ok (.getfield 302, 3) := by decide +kernel
theorem dX12_toHost_41 : decode cX12_toHost 41 = .ok (.if_icmp .ge 59, 3) := by decide +kernel
theorem dX12_toHost_44 : decode cX12_toHost 44 = .ok (.iload_n 2, 1) := by decide +kernel
theorem dX12_toHost_45 : decode cX12_toHost 45 = .ok (.ifCond .eq 47, 3) := by decide +kernel
theorem dX12_toHost_48 : decode cX12_toHost 48 = .ok (.aload_n 0, 1) := by decide +kernel
theorem dX12_toHost_49 : decode cX12_toHost 49 = .ok (.getfield 157, 3) := by decide +kernel
theorem dX12_toHost_52 : decode cX12_toHost 52 = .ok (.bipush 7, 2) := by decide +kernel
theorem dX12_toHost_54 : decode cX12_toHost 54 = .ok (.iload_n 3, 1) := by decide +kernel
theorem dX12_toHost_55 : decode cX12_toHost 55 = .ok (.imul, 1) := by decide +kernel
theorem dX12_toHost_56 : decode cX12_toHost 56 = .ok (.laload, 1) := by decide +kernel
theorem dX12_toHost_57 : decode cX12_toHost 57 = .ok (.aload_n 0, 1) := by decide +kernel
theorem dX12_toHost_58 : decode cX12_toHost 58 = .ok (.getfield 45, 3) := by decide +kernel
theorem dX12_toHost_61 : decode cX12_toHost 61 = .ok (.iconst 1, 1) := by decide +kernel
theorem dX12_toHost_62 : decode cX12_toHost 62 = .ok (.laload, 1) := by decide +kernel
theorem dX12_toHost_63 : decode cX12_toHost 63 = .ok (.lcmp, 1) := by decide +kernel
theorem dX12_toHost_64 : decode cX12_toHost 64 = .ok (.ifCond .ne 24, 3) := by decide +kernel
theorem dX12_toHost_67 : decode cX12_toHost 67 = .ok (.aload_n 0, 1) := by decide +kernel
theorem dX12_toHost_68 : decode cX12_toHost 68 = .ok (.getfield 157, 3) := by decide +kernel
theorem dX12_toHost_71 : decode cX12_toHost 71 = .ok (.bipush 7, 2) := by decide +kernel
theorem dX12_toHost_73 : decode cX12_toHost 73 = .ok (.iload_n 3, 1) := by decide +kernel
theorem dX12_toHost_74 : decode cX12_toHost 74 = .ok (.imul, 1) := by decide +kernel
theorem dX12_toHost_75 : decode cX12_toHost 75 = .ok (.iconst 1, 1) := by decide +kernel
theorem dX12_toHost_76 : decode cX12_toHost 76 = .ok (.iadd, 1) := by decide +kernel
theorem dX12_toHost_77 : decode cX12_toHost 77 = .ok (.laload, 1) := by decide +kernel
theorem dX12_toHost_78 : decode cX12_toHost 78 = .ok (.aload_n 0, 1) := by decide +kernel
theorem dX12_toHost_79 : decode cX12_toHost 79 = .ok (.getfield 45, 3) := by decide +kernel
theorem dX12_toHost_82 : decode cX12_toHost 82 = .ok (.iconst 2, 1) := by decide +kernel
theorem dX12_toHost_83 : decode cX12_toHost 83 = .ok (.laload, 1) := by decide +kernel
theorem dX12_toHost_84 : decode cX12_toHost 84 = .ok (.lcmp, 1) := by decide +kernel
theorem dX12_toHost_85 : decode cX12_toHost 85 = .ok (.ifCond .eq 7, 3) := by decide +kernel
theorem dX12_toHost_88 : decode cX12_toHost 88 = .ok (.iconst 1, 1) := by decide +kernel
theorem dX12_toHost_89 : decode cX12_toHost 89 = .ok (.goto 4, 3) := by decide +kernel
theorem dX12_toHost_92 : decode cX12_toHost 92 = .ok (.iconst 0, 1) := by decide +kernel
theorem dX12_toHost_93 : decode cX12_toHost 93 = .ok (.istore_n 2, 1) := by decide +kernel
theorem dX12_toHost_94 : decode cX12_toHost 94 = .ok (.iinc 3 1, 3) := by decide +kernel
theorem dX12_toHost_97 : decode cX12_toHost 97 = .ok (.goto (-61), 3) := by decide +kernel
theorem dX12_toHost_100 : decode cX12_toHost 100 = .ok (.iload_n 2, 1) := by decide +kernel
theorem dX12_toHost_101 : decode cX12_toHost 101 = .ok (.ifCond .eq 8, 3) := by decide +kernel
theorem dX12_toHost_104 : decode cX12_toHost 104 = .ok (.aload_n 0, 1) := by decide +kernel
theorem dX12_toHost_105 : decode cX12_toHost 105 = .ok (.iconst 2, 1) := by decide +kernel
theorem dX12_toHost_106 : decode cX12_toHost 106 = .ok (.invokevirtual 311, 3) := by decide +kernel
theorem dX12_toHost_109 : decode cX12_toHost 109 = .ok (.iload_n 2, 1) := by decide +kernel
theorem dX12_toHost_110 : decode cX12_toHost 110 = .ok (.ireturn, 1) := by decide +kernel
theorem dX12_toHost_111 : decode cX12_toHost 111 = .ok (.aload_n 0, 1) := by decide +kernel
theorem dX12_toHost_112 : decode cX12_toHost 112 = .ok (.iconst 1, 1) := by decide +kernel
theorem dX12_toHost_113 : decode cX12_toHost 113 = .ok (.invokevirtual 308, 3) := by decide +kernel
theorem dX12_toHost_116 : decode cX12_toHost 116 = .ok (.ifCond .eq 30, 3) := by decide +kernel
theorem dX12_toHost_119 : decode cX12_toHost 119 = .ok (.aload_n 0, 1) := by decide +kernel
theorem dX12_toHost_120 : decode cX12_toHost 120 = .ok (.getfield 45, 3) := by decide +kernel
theorem dX12_toHost_123 : decode cX12_toHost 123 = .ok (.iconst 2, 1) := by decide +kernel
theorem dX12_toHost_124 : decode cX12_toHost 124 = .ok (.laload, 1) := by decide +kernel
theorem dX12_toHost_125 : decode cX12_toHost 125 = .ok (.aload_n 0, 1) := by decide +kernel
theorem dX12_toHost_126 : decode cX12_toHost 126 = .ok (.getfield 66, 3) := by decide +kernel
theorem dX12_toHost_129 : decode cX12_toHost 129 = .ok (.aload_n 0, 1) := by decide +kernel
theorem dX12_toHost_130 : decode cX12_toHost 130 = .ok (.getfield 45, 3) := by decide +kernel
theorem dX12_toHost_133 : decode cX12_toHost 133 = .ok (.iconst 1, 1) := by decide +kernel
theorem dX12_toHost_134 : decode cX12_toHost 134 = .ok (.laload, 1) := by decide +kernel
theorem dX12_toHost_135 : decode cX12_toHost 135 = .ok (.l2i, 1) := by decide +kernel
theorem dX12_toHost_136 : decode cX12_toHost 136 = .ok (.iaload, 1) := by decide +kernel
theorem dX12_toHost_137 : decode cX12_toHost 137 = .ok (.i2l, 1) := by decide +kernel
theorem dX12_toHost_138 : decode cX12_toHost 138 = .ok (.lcmp, 1) := by decide +kernel
theorem dX12_toHost_139 : decode cX12_toHost 139 = .ok (.ifCond .le 7, 3) := by decide +kernel
theorem dX12_toHost_142 : decode cX12_toHost 142 = .ok (.iconst 1, 1) := by decide +kernel
theorem dX12_toHost_143 : decode cX12_toHost 143 = .ok (.goto 4, 3) := by decide +kernel
theorem dX12_toHost_146 : decode cX12_toHost 146 = .ok (.iconst 0, 1) := by decide +kernel
theorem dX12_toHost_147 : decode cX12_toHost 147 = .ok (.istore_n 2, 1) := by decide +kernel
theorem dX12_toHost_148 : decode cX12_toHost 148 = .ok (.iconst 0, 1) := by decide +kernel
theorem dX12_toHost_149 : decode cX12_toHost 149 = .ok (.istore_n 3, 1) := by decide +kernel
theorem dX12_toHost_150 : decode cX12_toHost 150 = .ok (.iload_n 2, 1) := by decide +kernel
theorem dX12_toHost_151 : decode cX12_toHost 151 = .ok (.ifCond .eq 58, 3) := by decide +kernel
theorem dX12_toHost_154 : decode cX12_toHost 154 = .ok (.aload_n 0, 1) := by decide +kernel
theorem dX12_toHost_155 : decode cX12_toHost 155 = .ok (.getfield 45, 3) := by decide +kernel
theorem dX12_toHost_158 : decode cX12_toHost 158 = .ok (.iconst 1, 1) := by decide +kernel
theorem dX12_toHost_159 : decode cX12_toHost 159 = .ok (.laload, 1) := by decide +kernel
theorem dX12_toHost_160 : decode cX12_toHost 160 = .ok (.l2i, 1) := by decide +kernel
theorem dX12_toHost_161 : decode cX12_toHost 161 = .ok (.istore 4, 2) := by decide +kernel
theorem dX12_toHost_163 : decode cX12_toHost 163 = .ok (.aload_n 0, 1) := by decide +kernel
theorem dX12_toHost_164 : decode cX12_toHost 164 = .ok (.getfield 66, 3) := by decide +kernel
theorem dX12_toHost_167 : decode cX12_toHost 167 = .ok (.iload 4, 2) := by decide +kernel
theorem dX12_toHost_169 : decode cX12_toHost 169 = .ok (.aload_n 0, 1) := by decide +kernel
theorem dX12_toHost_170 : decode cX12_toHost 170 = .ok (.getfield 45, 3) := by decide +kernel
theorem dX12_toHost_173 : decode cX12_toHost 173 = .ok (.iconst 2, 1) := by decide +kernel
theorem dX12_toHost_174 : decode cX12_toHost 174 = .ok (.laload, 1) := by decide +kernel
theorem dX12_toHost_175 : decode cX12_toHost 175 = .ok (.l2i, 1) := by decide +kernel
theorem dX12_toHost_176 : decode cX12_toHost 176 = .ok (.iastore, 1) := by decide +kernel
theorem dX12_toHost_177 : decode cX12_toHost 177 = .ok (.aload_n 0, 1) := by decide +kernel
theorem dX12_toHost_178 : decode cX12_toHost 178 = .ok (.getfield 63, 3) := by decide +kernel
theorem dX12_toHost_181 : decode cX12_toHost 181 = .ok (.iload 4, 2) := by decide +kernel
theorem dX12_toHost_183 : decode cX12_toHost 183 = .ok (.laload, 1) := by decide +kernel
theorem dX12_toHost_184 : decode cX12_toHost 184 = .ok (.aload_n 0, 1) := by decide +kernel
theorem dX12_toHost_185 : decode cX12_toHost 185 = .ok (.getfield 45, 3) := by decide +kernel
theorem dX12_toHost_188 : decode cX12_toHost 188 = .ok (.iconst 3, 1) := by decide +kernel
theorem dX12_toHost_189 : decode cX12_toHost 189 = .ok (.laload, 1) := by decide +kernel
theorem dX12_toHost_190 : decode cX12_toHost 190 = .ok (.lcmp, 1) := by decide +kernel
theorem dX12_toHost_191 : decode cX12_toHost 191 = .ok (.ifCond .lt 7, 3) := by decide +kernel
theorem dX12_toHost_194 : decode cX12_toHost 194 = .ok (.iconst 1, 1) := by decide +kernel
theorem dX12_toHost_195 : decode cX12_toHost 195 = .ok (.goto 4, 3) := by decide +kernel
theorem dX12_toHost_198 : decode cX12_toHost 198 = .ok (.iconst 0, 1) := by decide +kernel
theorem dX12_toHost_199 : decode cX12_toHost 199 = .ok (.istore_n 3, 1) := by decide +kernel
theorem dX12_toHost_200 : decode cX12_toHost 200 = .ok (.iload_n 3, 1) := by decide +kernel
theorem dX12_toHost_201 : decode cX12_toHost 201 = .ok (.ifCond .eq 8, 3) := by decide +kernel
theorem dX12_toHost_204 : decode cX12_toHost 204 = .ok (.aload_n 0, 1) := by decide +kernel
theorem dX12_toHost_205 : decode cX12_toHost 205 = .ok (.iconst 1, 1) := by decide +kernel
theorem dX12_toHost_206 : decode cX12_toHost 206 = .ok (.invokevirtual 311, 3) := by decide +kernel
theorem dX12_toHost_209 : decode cX12_toHost 209 = .ok (.iload_n 3, 1) := by decide +kernel
theorem dX12_toHost_210 : decode cX12_toHost 210 = .ok (.ifCond .eq 7, 3) := by decide +kernel
theorem dX12_toHost_213 : decode cX12_toHost 213 = .ok (.lconst 1, 1) := by decide +kernel
theorem dX12_toHost_214 : decode cX12_toHost 214 = .ok (.goto 4, 3) := by decide +kernel
theorem dX12_toHost_217 : decode cX12_toHost 217 = .ok (.lconst 0, 1) := by decide +kernel
theorem dX12_toHost_218 : decode cX12_toHost 218 = .ok (.lstore 4, 2) := by decide +kernel
theorem dX12_toHost_220 : decode cX12_toHost 220 = .ok (.aload_n 0, 1) := by decide +kernel
theorem dX12_toHost_221 : decode cX12_toHost 221 = .ok (.getfield 48, 3) := by decide +kernel
theorem dX12_toHost_224 : decode cX12_toHost 224 = .ok (.iconst 1, 1) := by decide +kernel
theorem dX12_toHost_225 : decode cX12_toHost 225 = .ok (.aload_n 0, 1) := by decide +kernel
theorem dX12_toHost_226 : decode cX12_toHost 226 = .ok (.getfield 45, 3) := by decide +kernel
theorem dX12_toHost_229 : decode cX12_toHost 229 = .ok (.iconst 1, 1) := by decide +kernel
theorem dX12_toHost_230 : decode cX12_toHost 230 = .ok (.laload, 1) := by decide +kernel
theorem dX12_toHost_231 : decode cX12_toHost 231 = .ok (.lastore, 1) := by decide +kernel
theorem dX12_toHost_232 : decode cX12_toHost 232 = .ok (.aload_n 0, 1) := by decide +kernel
theorem dX12_toHost_233 : decode cX12_toHost 233 = .ok (.getfield 48, 3) := by decide +kernel
theorem dX12_toHost_236 : decode cX12_toHost 236 = .ok (.iconst 2, 1) := by decide +kernel
theorem dX12_toHost_237 : decode cX12_toHost 237 = .ok (.aload_n 0, 1) := by decide +kernel
theorem dX12_toHost_238 : decode cX12_toHost 238 = .ok (.getfield 45, 3) := by decide +kernel
theorem dX12_toHost_241 : decode cX12_toHost 241 = .ok (.iconst 2, 1) := by decide +kernel
theorem dX12_toHost_242 : decode cX12_toHost 242 = .ok (.laload, 1) := by decide +kernel
theorem dX12_toHost_243 : decode cX12_toHost 243 = .ok (.lastore, 1) := by decide +kernel
theorem dX12_toHost_244 : decode cX12_toHost 244 = .ok (.aload_n 0, 1) := by decide +kernel
theorem dX12_toHost_245 : decode cX12_toHost 245 = .ok (.ldc2_w 255, 3) := by decide +kernel
theorem dX12_toHost_248 : decode cX12_toHost 248 = .ok (.invokevirtual 227, 3) := by decide +kernel
theorem dX12_toHost_251 : decode cX12_toHost 251 = .ok (.aload_n 0, 1) := by decide +kernel
theorem dX12_toHost_252 : decode cX12_toHost 252 = .ok (.aload_n 0, 1) := by decide +kernel
theorem dX12_toHost_253 : decode cX12_toHost 253 = .ok (.getfield 45, 3) := by decide +kernel
theorem dX12_toHost_256 : decode cX12_toHost 256 = .ok (.iconst 1, 1) := by decide +kernel
theorem dX12_toHost_257 : decode cX12_toHost 257 = .ok (.laload, 1) := by decide +kernel
theorem dX12_toHost_258 : decode cX12_toHost 258 = .ok (.invokevirtual 231, 3) := by decide +kernel
theorem dX12_toHost_261 : decode cX12_toHost 261 = .ok (.aload_n 0, 1) := by decide +kernel
theorem dX12_toHost_262 : decode cX12_toHost 262 = .ok (.aload_n 0, 1) := by decide +kernel
theorem dX12_toHost_263 : decode cX12_toHost 263 = .ok (.getfield 45, 3) := by decide +kernel
theorem dX12_toHost_266 : decode cX12_toHost 266 = .ok (.iconst 2, 1) := by decide +kernel
theorem dX12_toHost_267 : decode cX12_toHost 267 = .ok (.laload, 1) := by decide +kernel
theorem dX12_toHost_268 : decode cX12_toHost 268 = .ok (.invokevirtual 231, 3) := by decide +kernel
theorem dX12_toHost_271 : decode cX12_toHost 271 = .ok (.aload_n 0, 1) := by decide +kernel
theorem dX12_toHost_272 : decode cX12_toHost 272 = .ok (.lload 4, 2) := by decide +kernel
theorem dX12_toHost_274 : decode cX12_toHost 274 = .ok (.invokevirtual 231, 3) := by decide +kernel
theorem dX12_toHost_277 : decode cX12_toHost 277 = .ok (.aload_n 0, 1) := by decide +kernel
theorem dX12_toHost_278 : decode cX12_toHost 278 = .ok (.getfield 48, 3) := by decide +kernel
theorem dX12_toHost_281 : decode cX12_toHost 281 = .ok (.bipush 8, 2) := by decide +kernel
theorem dX12_toHost_283 : decode cX12_toHost 283 = .ok (.aload_n 0, 1) := by decide +kernel
theorem dX12_toHost_284 : decode cX12_toHost 284 = .ok (.iconst 2, 1) := by decide +kernel
theorem dX12_toHost_285 : decode cX12_toHost 285 = .ok (.aload_n 0, 1) := by decide +kernel
theorem dX12_toHost_286 : decode cX12_toHost 286 = .ok (.getfield 45, 3) := by decide +kernel
theorem dX12_toHost_289 : decode cX12_toHost 289 = .ok (.iconst 1, 1) := by decide +kernel
theorem dX12_toHost_290 : decode cX12_toHost 290 = .ok (.laload, 1) := by decide +kernel
theorem dX12_toHost_291 : decode cX12_toHost 291 = .ok (.invokevirtual 234, 3) := by decide +kernel
theorem dX12_toHost_294 : decode cX12_toHost 294 = .ok (.i2l, 1) := by decide +kernel
theorem dX12_toHost_295 : decode cX12_toHost 295 = .ok (.lastore, 1) := by decide +kernel
theorem dX12_toHost_296 : decode cX12_toHost 296 = .ok (.aload_n 0, 1) := by decide +kernel
theorem dX12_toHost_297 : decode cX12_toHost 297 = .ok (.aload_n 0, 1) := by decide +kernel
theorem dX12_toHost_298 : decode cX12_toHost 298 = .ok (.getfield 45, 3) := by decide +kernel
theorem dX12_toHost_301 : decode cX12_toHost 301 = .ok (.iconst 3, 1) := by decide +kernel
theorem dX12_toHost_302 : decode cX12_toHost 302 = .ok (.laload, 1) := by decide +kernel
theorem dX12_toHost_303 : decode cX12_toHost 303 = .ok (.invokevirtual 231, 3) := by decide +kernel
theorem dX12_toHost_306 : decode cX12_toHost 306 = .ok (.aload_n 0, 1) := by decide +kernel
theorem dX12_toHost_307 : decode cX12_toHost 307 = .ok (.getfield 48, 3) := by decide +kernel
theorem dX12_toHost_310 : decode cX12_toHost 310 = .ok (.bipush 10, 2) := by decide +kernel
theorem dX12_toHost_312 : decode cX12_toHost 312 = .ok (.lload 4, 2) := by decide +kernel
theorem dX12_toHost_314 : decode cX12_toHost 314 = .ok (.lastore, 1) := by decide +kernel
theorem dX12_toHost_315 : decode cX12_toHost 315 = .ok (.aload_n 0, 1) := by decide +kernel
theorem dX12_toHost_316 : decode cX12_toHost 316 = .ok (.getfield 48, 3) := by decide +kernel
theorem dX12_toHost_319 : decode cX12_toHost 319 = .ok (.bipush 11, 2) := by decide +kernel
theorem dX12_toHost_321 : decode cX12_toHost 321 = .ok (.aload_n 0, 1) := by decide +kernel
theorem dX12_toHost_322 : decode cX12_toHost 322 = .ok (.iconst 1, 1) := by decide +kernel
theorem dX12_toHost_323 : decode cX12_toHost 323 = .ok (.aload_n 0, 1) := by decide +kernel
theorem dX12_toHost_324 : decode cX12_toHost 324 = .ok (.getfield 45, 3) := by decide +kernel
theorem dX12_toHost_327 : decode cX12_toHost 327 = .ok (.iconst 5, 1) := by decide +kernel
theorem dX12_toHost_328 : decode cX12_toHost 328 = .ok (.laload, 1) := by decide +kernel
theorem dX12_toHost_329 : decode cX12_toHost 329 = .ok (.invokevirtual 234, 3) := by decide +kernel
theorem dX12_toHost_332 : decode cX12_toHost 332 = .ok (.i2l, 1) := by decide +kernel
theorem dX12_toHost_333 : decode cX12_toHost 333 = .ok (.lastore, 1) := by decide +kernel
theorem dX12_toHost_334 : decode cX12_toHost 334 = .ok (.aload_n 0, 1) := by decide +kernel
theorem dX12_toHost_335 : decode cX12_toHost 335 = .ok (.bipush 8, 2) := by decide +kernel
theorem dX12_toHost_337 : decode cX12_toHost 337 = .ok (.iconst 2, 1) := by decide +kernel
theorem dX12_toHost_338 : decode cX12_toHost 338 = .ok (.iconst 0, 1) := by decide +kernel
theorem dX12_toHost_339 : decode cX12_toHost 339 = .ok (.iconst 1, 1) := by decide +kernel
theorem dX12_toHost_340 : decode cX12_toHost 340 = .ok (.aload_n 0, 1) := by decide +kernel
theorem dX12_toHost_341 : decode cX12_toHost 341 = .ok (.getfield 45, 3) := by decide +kernel
theorem dX12_toHost_344 : decode cX12_toHost 344 = .ok (.iconst 5, 1) := by decide +kernel
theorem dX12_toHost_345 : decode cX12_toHost 345 = .ok (.laload, 1) := by decide +kernel
theorem dX12_toHost_346 : decode cX12_toHost 346 = .ok (.l2i, 1) := by decide +kernel
theorem dX12_toHost_347 : decode cX12_toHost 347 = .ok (.invokevirtual 217, 3) := by decide +kernel
theorem dX12_toHost_350 : decode cX12_toHost 350 = .ok (.pop, 1) := by decide +kernel
theorem dX12_toHost_351 : decode cX12_toHost 351 = .ok (.iconst 1, 1) := by decide +kernel
theorem dX12_toHost_352 : decode cX12_toHost 352 = .ok (.ireturn, 1) := by decide +kernel
theorem dX12_card_0 : decode cX12_card 0 = .ok (.aload_n 0, 1) := by decide +kernel
theorem dX12_card_1 : decode cX12_card 1 = .ok (.getfield 286, 3) := by decide +kernel
theorem dX12_card_4 : decode cX12_card 4 = .ok (.bipush 16, 2) := by decide +kernel
theorem dX12_card_6 : decode cX12_card 6 = .ok (.if_icmp .eq 51, 3) := by decide +kernel
theorem dX12_card_9 : decode cX12_card 9 = .ok (.iload_n 1, 1) := by decide +kernel
theorem dX12_card_10 : decode cX12_card 10 = .ok (.i2l, 1) := by decide +kernel
theorem dX12_card_11 : decode cX12_card 11 = .ok (.lconst 0, 1) := by decide +kernel
theorem dX12_card_12 : decode cX12_card 12 = .ok (.ldc2_w 314, 3) := by decide +kernel
theorem dX12_card_15 : decode cX12_card 15 = .ok (.invokestatic 316, 3) := by decide +kernel
theorem dX12_card_18 : decode cX12_card 18 = .ok (.ifCond .eq 39, 3) := by decide +kernel
theorem dX12_card_21 : decode cX12_card 21 = .ok (.lload_n 2, 1) := by decide +kernel
theorem dX12_card_22 : decode cX12_card 22 = .ok (.lconst 0, 1) := by decide +kernel
theorem dX12_card_23 : decode cX12_card 23 = .ok (.ldc2_w 320, 3) := by decide +kernel
theorem dX12_card_26 : decode cX12_card 26 = .ok (.invokestatic 316, 3) := by decide +kernel
theorem dX12_card_29 : decode cX12_card 29 = .ok (.ifCond .eq 28, 3) := by decide +kernel
theorem dX12_card_32 : decode cX12_card 32 = .ok (.iload 4, 2) := by decide +kernel
theorem dX12_card_34 : decode cX12_card 34 = .ok (.i2l, 1) := by decide +kernel
theorem dX12_card_35 : decode cX12_card 35 = .ok (.lconst 0, 1) := by decide +kernel
theorem dX12_card_36 : decode cX12_card 36 = .ok (.ldc2_w 322, 3) := by decide +kernel
theorem dX12_card_39 : decode cX12_card 39 = .ok (.invokestatic 316, 3) := by decide +kernel
theorem dX12_card_42 : decode cX12_card 42 = .ok (.ifCond .eq 15, 3) := by decide +kernel
theorem dX12_card_45 : decode cX12_card 45 = .ok (.lload 5, 2) := by decide +kernel
theorem dX12_card_47 : decode cX12_card 47 = .ok (.lconst 0, 1) := by decide +kernel
theorem dX12_card_48 : decode cX12_card 48 = .ok (.ldc2_w 324, 3) := by decide +kernel
theorem dX12_card_51 : decode cX12_card 51 = .ok (.invokestatic 316, 3) := by decide +kernel
theorem dX12_card_54 : decode cX12_card 54 = .ok (.ifCond .ne 5, 3) := by decide +kernel
theorem dX12_card_57 : decode cX12_card 57 = .ok (.iconst (-1), 1) := by decide +kernel
theorem dX12_card_58 : decode cX12_card 58 = .ok (.ireturn, 1) := by decide +kernel
theorem dX12_card_59 : decode cX12_card 59 = .ok (.aload_n 0, 1) := by decide +kernel
theorem dX12_card_60 : decode cX12_card 60 = .ok (.getfield 54, 3) := by decide +kernel
theorem dX12_card_63 : decode cX12_card 63 = .ok (.aload_n 0, 1) := by decide +kernel
theorem dX12_card_64 : decode cX12_card 64 = .ok (.getfield 286, 3) := by decide +kernel
theorem dX12_card_67 : decode cX12_card 67 = .ok (.iload_n 1, 1) := by decide +kernel
theorem dX12_card_68 : decode cX12_card 68 = .ok (.iastore, 1) := by decide +kernel
theorem dX12_card_69 : decode cX12_card 69 = .ok (.aload_n 0, 1) := by decide +kernel
theorem dX12_card_70 : decode cX12_card 70 = .ok (.getfield 57, 3) := by decide +kernel
theorem dX12_card_73 : decode cX12_card 73 = .ok (.aload_n 0, 1) := by decide +kernel
theorem dX12_card_74 : decode cX12_card 74 = .ok (.getfield 286, 3) := by decide +kernel
theorem dX12_card_77 : decode cX12_card 77 = .ok (.lload_n 2, 1) := by decide +kernel
theorem dX12_card_78 : decode cX12_card 78 = .ok (.lastore, 1) := by decide +kernel
theorem dX12_card_79 : decode cX12_card 79 = .ok (.aload_n 0, 1) := by decide +kernel
theorem dX12_card_80 : decode cX12_card 80 = .ok (.getfield 60, 3) := by decide +kernel
theorem dX12_card_83 : decode cX12_card 83 = .ok (.aload_n 0, 1) := by decide +kernel
theorem dX12_card_84 : decode cX12_card 84 = .ok (.getfield 286, 3) := by decide +kernel
theorem dX12_card_87 : decode cX12_card 87 = .ok (.iload 4, 2) := by decide +kernel
theorem dX12_card_89 : decode cX12_card 89 = .ok (.iastore, 1) := by decide +kernel
theorem dX12_card_90 : decode cX12_card 90 = .ok (.aload_n 0, 1) := by decide +kernel
theorem dX12_card_91 : decode cX12_card 91 = .ok (.getfield 63, 3) := by decide +kernel
theorem dX12_card_94 : decode cX12_card 94 = .ok (.aload_n 0, 1) := by decide +kernel
theorem dX12_card_95 : decode cX12_card 95 = .ok (.getfield 286, 3) := by decide +kernel
theorem dX12_card_98 : decode cX12_card 98 = .ok (.lload 5, 2) := by decide +kernel
theorem dX12_card_100 : decode cX12_card 100 = .ok (.lastore, 1) := by decide +kernel
theorem dX12_card_101 : decode cX12_card 101 = .ok (.aload_n 0, 1) := by decide +kernel
theorem dX12_card_102 : decode cX12_card 102 = .ok (.getfield 72, 3) := by decide +kernel
theorem dX12_card_105 : decode cX12_card 105 = .ok (.aload_n 0, 1) := by decide +kernel
theorem dX12_card_106 : decode cX12_card 106 = .ok (.getfield 286, 3) := by decide +kernel
theorem dX12_card_109 : decode cX12_card 109 = .ok (.iconst 3, 1) := by decide +kernel
theorem dX12_card_110 : decode cX12_card 110 = .ok (.iastore, 1) := by decide +kernel
theorem dX12_card_111 : decode cX12_card 111 = .ok (.aload_n 0, 1) := by decide +kernel
theorem dX12_card_112 : decode cX12_card 112 = .ok (.getfield 93, 3) := by decide +kernel
theorem dX12_card_115 : decode cX12_card 115 = .ok (.aload_n 0, 1) := by decide +kernel
theorem dX12_card_116 : decode cX12_card 116 = .ok (.getfield 286, 3) := by decide +kernel
theorem dX12_card_119 : decode cX12_card 119 = .ok (.iconst (-1), 1) := by decide +kernel
theorem dX12_card_120 : decode cX12_card 120 = .ok (.iastore, 1) := by decide +kernel
theorem dX12_card_121 : decode cX12_card 121 = .ok (.aload_n 0, 1) := by decide +kernel
theorem dX12_card_122 : decode cX12_card 122 = .ok (.dup, 1) := by decide +kernel
theorem dX12_card_123 : decode cX12_card 123 = .ok (.getfield 286, 3) := by decide +kernel
theorem dX12_card_126 : decode cX12_card 126 = .ok (.iconst 1, 1) := by decide +kernel
theorem dX12_card_127 : decode cX12_card 127 = .ok (.iadd, 1) := by decide +kernel
theorem dX12_card_128 : decode cX12_card 128 = .ok (.putfield 286, 3) := by decide +kernel
theorem dX12_card_131 : decode cX12_card 131 = .ok (.aload_n 0, 1) := by decide +kernel
theorem dX12_card_132 : decode cX12_card 132 = .ok (.getfield 286, 3) := by decide +kernel
theorem dX12_card_135 : decode cX12_card 135 = .ok (.iconst 1, 1) := by decide +kernel
theorem dX12_card_136 : decode cX12_card 136 = .ok (.isub, 1) := by decide +kernel
theorem dX12_card_137 : decode cX12_card 137 = .ok (.ireturn, 1) := by decide +kernel
theorem dX12_terminal_0 : decode cX12_terminal 0 = .ok (.aload_n 0, 1) := by decide +kernel
theorem dX12_terminal_1 : decode cX12_terminal 1 = .ok (.getfield 299, 3) := by decide +kernel
theorem dX12_terminal_4 : decode cX12_terminal 4 = .ok (.bipush 8, 2) := by decide +kernel
theorem dX12_terminal_6 : decode cX12_terminal 6 = .ok (.if_icmp .eq 25, 3) := by decide +kernel
theorem dX12_terminal_9 : decode cX12_terminal 9 = .ok (.lload_n 1, 1) := by decide +kernel
theorem dX12_terminal_10 : decode cX12_terminal 10 = .ok (.lconst 0, 1) := by decide +kernel
theorem dX12_terminal_11 : decode cX12_terminal 11 = .ok (.ldc2_w 320, 3) := by decide +kernel
theorem dX12_terminal_14 : decode cX12_terminal 14 = .ok (.invokestatic 316, 3) := by decide +kernel
theorem dX12_terminal_17 : decode cX12_terminal 17 = .ok (.ifCond .eq 14, 3) := by decide +kernel
theorem dX12_terminal_20 : decode cX12_terminal 20 = .ok (.lload_n 3, 1) := by decide +kernel
theorem dX12_terminal_21 : decode cX12_terminal 21 = .ok (.lconst 0, 1) := by decide +kernel
theorem dX12_terminal_22 : decode cX12_terminal 22 = .ok (.ldc2_w 320, 3) := by decide +kernel
theorem dX12_terminal_25 : decode cX12_terminal 25 = .ok (.invokestatic 316, 3) := by decide +kernel
theorem dX12_terminal_28 : decode cX12_terminal 28 = .ok (.ifCond .ne 5, 3) := by decide +kernel
theorem dX12_terminal_31 : decode cX12_terminal 31 = .ok (.iconst (-1), 1) := by decide +kernel
theorem dX12_terminal_32 : decode cX12_terminal 32 = .ok (.ireturn, 1) := by decide +kernel
theorem dX12_terminal_33 : decode cX12_terminal 33 = .ok (.aload_n 0, 1) := by decide +kernel
theorem dX12_terminal_34 : decode cX12_terminal 34 = .ok (.getfield 96, 3) := by decide +kernel
theorem dX12_terminal_37 : decode cX12_terminal 37 = .ok (.aload_n 0, 1) := by decide +kernel
theorem dX12_terminal_38 : decode cX12_terminal 38 = .ok (.getfield 299, 3) := by decide +kernel
theorem dX12_terminal_41 : decode cX12_terminal 41 = .ok (.lload_n 1, 1) := by decide +kernel
theorem dX12_terminal_42 : decode cX12_terminal 42 = .ok (.lastore, 1) := by decide +kernel
theorem dX12_terminal_43 : decode cX12_terminal 43 = .ok (.aload_n 0, 1) := by decide +kernel
theorem dX12_terminal_44 : decode cX12_terminal 44 = .ok (.getfield 99, 3) := by decide +kernel
theorem dX12_terminal_47 : decode cX12_terminal 47 = .ok (.aload_n 0, 1) := by decide +kernel
theorem dX12_terminal_48 : decode cX12_terminal 48 = .ok (.getfield 299, 3) := by decide +kernel
theorem dX12_terminal_51 : decode cX12_terminal 51 = .ok (.lload_n 3, 1) := by decide +kernel
theorem dX12_terminal_52 : decode cX12_terminal 52 = .ok (.lastore, 1) := by decide +kernel
theorem dX12_terminal_53 : decode cX12_terminal 53 = .ok (.aload_n 0, 1) := by decide +kernel
theorem dX12_terminal_54 : decode cX12_terminal 54 = .ok (.getfield 102, 3) := by decide +kernel
theorem dX12_terminal_57 : decode cX12_terminal 57 = .ok (.aload_n 0, 1) := by decide +kernel
theorem dX12_terminal_58 : decode cX12_terminal 58 = .ok (.getfield 299, 3) := by decide +kernel
theorem dX12_terminal_61 : decode cX12_terminal 61 = .ok (.ldc2_w 326, 3) := by decide +kernel
theorem dX12_terminal_64 : decode cX12_terminal 64 = .ok (.aload_n 0, 1) := by decide +kernel
theorem dX12_terminal_65 : decode cX12_terminal 65 = .ok (.getfield 299, 3) := by decide +kernel
theorem dX12_terminal_68 : decode cX12_terminal 68 = .ok (.i2l, 1) := by decide +kernel
theorem dX12_terminal_69 : decode cX12_terminal 69 = .ok (.ladd, 1) := by decide +kernel
theorem dX12_terminal_70 : decode cX12_terminal 70 = .ok (.lastore, 1) := by decide +kernel
theorem dX12_terminal_71 : decode cX12_terminal 71 = .ok (.aload_n 0, 1) := by decide +kernel
theorem dX12_terminal_72 : decode cX12_terminal 72 = .ok (.dup, 1) := by decide +kernel
theorem dX12_terminal_73 : decode cX12_terminal 73 = .ok (.getfield 299, 3) := by decide +kernel
theorem dX12_terminal_76 : decode cX12_terminal 76 = .ok (.iconst 1, 1) := by decide +kernel
theorem dX12_terminal_77 : decode cX12_terminal 77 = .ok (.iadd, 1) := by decide +kernel
theorem dX12_terminal_78 : decode cX12_terminal 78 = .ok (.putfield 299, 3) := by decide +kernel
theorem dX12_terminal_81 : decode cX12_terminal 81 = .ok (.aload_n 0, 1) := by decide +kernel
theorem dX12_terminal_82 : decode cX12_terminal 82 = .ok (.getfield 299, 3) := by decide +kernel
theorem dX12_terminal_85 : decode cX12_terminal 85 = .ok (.iconst 1, 1) := by decide +kernel
theorem dX12_terminal_86 : decode cX12_terminal 86 = .ok (.isub, 1) := by decide +kernel
theorem dX12_terminal_87 : decode cX12_terminal 87 = .ok (.ireturn, 1) := by decide +kernel
theorem dX12_purchase_0 : decode cX12_purchase 0 = .ok (.iload_n 1, 1) := by decide +kernel
theorem dX12_purchase_1 : decode cX12_purchase 1 = .ok (.ifCond .lt 47, 3) := by decide +kernel
theorem dX12_purchase_4 : decode cX12_purchase 4 = .ok (.iload_n 1, 1) := by decide +kernel
theorem dX12_purchase_5 : decode cX12_purchase 5 = .ok (.aload_n 0, 1) := by decide +kernel
theorem dX12_purchase_6 : decode cX12_purchase 6 = .ok (.getfield 299, 3) := by decide +kernel
theorem dX12_purchase_9 : decode cX12_purchase 9 = .ok (.if_icmp .ge 39, 3) := by decide +kernel
theorem dX12_purchase_12 : decode cX12_purchase 12 = .ok (.iload_n 2, 1) := by decide +kernel
theorem dX12_purchase_13 : decode cX12_purchase 13 = .ok (.ifCond .lt 35, 3) := by decide +kernel
theorem dX12_purchase_16 : decode cX12_purchase 16 = .ok (.iload_n 2, 1) := by decide +kernel
theorem dX12_purchase_17 : decode cX12_purchase 17 = .ok (.aload_n 0, 1) := by decide +kernel
theorem dX12_purchase_18 : decode cX12_purchase 18 = .ok (.getfield 286, 3) := by decide +kernel
theorem dX12_purchase_21 : decode cX12_purchase 21 = .ok (.if_icmp .ge 27, 3) := by decide +kernel
theorem dX12_purchase_24 : decode cX12_purchase 24 = .ok (.lload_n 3, 1) := by decide +kernel
theorem dX12_purchase_25 : decode cX12_purchase 25 = .ok (.lconst 1, 1) := by decide +kernel
theorem dX12_purchase_26 : decode cX12_purchase 26 = .ok (.ldc2_w 320, 3) := by decide +kernel
theorem dX12_purchase_29 : decode cX12_purchase 29 = .ok (.invokestatic 316, 3) := by decide +kernel
theorem dX12_purchase_32 : decode cX12_purchase 32 = .ok (.ifCond .eq 16, 3) := by decide +kernel
theorem dX12_purchase_35 : decode cX12_purchase 35 = .ok (.iload 5, 2) := by decide +kernel
theorem dX12_purchase_37 : decode cX12_purchase 37 = .ok (.i2l, 1) := by decide +kernel
theorem dX12_purchase_38 : decode cX12_purchase 38 = .ok (.lconst 0, 1) := by decide +kernel
theorem dX12_purchase_39 : decode cX12_purchase 39 = .ok (.ldc2_w 314, 3) := by decide +kernel
theorem dX12_purchase_42 : decode cX12_purchase 42 = .ok (.invokestatic 316, 3) := by decide +kernel
theorem dX12_purchase_45 : decode cX12_purchase 45 = .ok (.ifCond .ne 5, 3) := by decide +kernel
theorem dX12_purchase_48 : decode cX12_purchase 48 = .ok (.iconst (-1), 1) := by decide +kernel
theorem dX12_purchase_49 : decode cX12_purchase 49 = .ok (.ireturn, 1) := by decide +kernel
theorem dX12_purchase_50 : decode cX12_purchase 50 = .ok (.aload_n 0, 1) := by decide +kernel
theorem dX12_purchase_51 : decode cX12_purchase 51 = .ok (.getfield 102, 3) := by decide +kernel
theorem dX12_purchase_54 : decode cX12_purchase 54 = .ok (.iload_n 1, 1) := by decide +kernel
theorem dX12_purchase_55 : decode cX12_purchase 55 = .ok (.aload_n 0, 1) := by decide +kernel
theorem dX12_purchase_56 : decode cX12_purchase 56 = .ok (.getfield 102, 3) := by decide +kernel
theorem dX12_purchase_59 : decode cX12_purchase 59 = .ok (.iload_n 1, 1) := by decide +kernel
theorem dX12_purchase_60 : decode cX12_purchase 60 = .ok (.laload, 1) := by decide +kernel
theorem dX12_purchase_61 : decode cX12_purchase 61 = .ok (.ldc2_w 328, 3) := by decide +kernel
theorem dX12_purchase_64 : decode cX12_purchase 64 = .ok (.lmul, 1) := by decide +kernel
theorem dX12_purchase_65 : decode cX12_purchase 65 = .ok (.ldc2_w 326, 3) := by decide +kernel
theorem dX12_purchase_68 : decode cX12_purchase 68 = .ok (.ladd, 1) := by decide +kernel
theorem dX12_purchase_69 : decode cX12_purchase 69 = .ok (.ldc2_w 330, 3) := by decide +kernel
theorem dX12_purchase_72 : decode cX12_purchase 72 = .ok (.lrem, 1) := by decide +kernel
theorem dX12_purchase_73 : decode cX12_purchase 73 = .ok (.lastore, 1) := by decide +kernel
theorem dX12_purchase_74 : decode cX12_purchase 74 = .ok (.aload_n 0, 1) := by decide +kernel
theorem dX12_purchase_75 : decode cX12_purchase 75 = .ok (.getfield 105, 3) := by decide +kernel
theorem dX12_purchase_78 : decode cX12_purchase 78 = .ok (.iload_n 1, 1) := by decide +kernel
theorem dX12_purchase_79 : decode cX12_purchase 79 = .ok (.iconst 0, 1) := by decide +kernel
theorem dX12_purchase_80 : decode cX12_purchase 80 = .ok (.iastore, 1) := by decide +kernel
theorem dX12_purchase_81 : decode cX12_purchase 81 = .ok (.aload_n 0, 1) := by decide +kernel
theorem dX12_purchase_82 : decode cX12_purchase 82 = .ok (.getfield 120, 3) := by decide +kernel
theorem dX12_purchase_85 : decode cX12_purchase 85 = .ok (.iload_n 1, 1) := by decide +kernel
theorem dX12_purchase_86 : decode cX12_purchase 86 = .ok (.aload_n 0, 1) := by decide +kernel
theorem dX12_purchase_87 : decode cX12_purchase 87 = .ok (.getfield 102, 3) := by decide +kernel
theorem dX12_purchase_90 : decode cX12_purchase 90 = .ok (.iload_n 1, 1) := by decide +kernel
theorem dX12_purchase_91 : decode cX12_purchase 91 = .ok (.laload, 1) := by decide +kernel
theorem dX12_purchase_92 : decode cX12_purchase 92 = .ok (.lastore, 1) := by decide +kernel
theorem dX12_purchase_93 : decode cX12_purchase 93 = .ok (.aload_n 0, 1) := by decide +kernel
theorem dX12_purchase_94 : decode cX12_purchase 94 = .ok (.getfield 117, 3) := by decide +kernel
theorem dX12_purchase_97 : decode cX12_purchase 97 = .ok (.iload_n 1, 1) := by decide +kernel
theorem dX12_purchase_98 : decode cX12_purchase 98 = .ok (.lload_n 3, 1) := by decide +kernel
theorem dX12_purchase_99 : decode cX12_purchase 99 = .ok (.lastore, 1) := by decide +kernel
theorem dX12_purchase_100 : decode cX12_purchase 100 = .ok (.aload_n 0, 1) := by decide +kernel
theorem dX12_purchase_101 : decode cX12_purchase 101 = .ok (.getfield 123, 3) := by decide +kernel
theorem dX12_purchase_104 : decode cX12_purchase 104 = .ok (.iload_n 1, 1) := by decide +kernel
theorem dX12_purchase_105 : decode cX12_purchase 105 = .ok (.iload 5, 2) := by decide +kernel
theorem dX12_purchase_107 : decode cX12_purchase 107 = .ok (.iastore, 1) := by decide +kernel
theorem dX12_purchase_108 : decode cX12_purchase 108 = .ok (.aload_n 0, 1) := by decide +kernel
theorem dX12_purchase_109 : decode cX12_purchase 109 = .ok (.getfield 114, 3) := by decide +kernel
theorem dX12_purchase_112 : decode cX12_purchase 112 = .ok (.iload_n 1, 1) := by decide +kernel
theorem dX12_purchase_113 : decode cX12_purchase 113 = .ok (.iload_n 2, 1) := by decide +kernel
theorem dX12_purchase_114 : decode cX12_purchase 114 = .ok (.iastore, 1) := by decide +kernel
theorem dX12_purchase_115 : decode cX12_purchase 115 = .ok (.aload_n 0, 1) := by decide +kernel
theorem dX12_purchase_116 : decode cX12_purchase 116 = .ok (.getfield 151, 3) := by decide +kernel
theorem dX12_purchase_119 : decode cX12_purchase 119 = .ok (.iconst 3, 1) := by decide +kernel
theorem dX12_purchase_120 : decode cX12_purchase 120 = .ok (.aload_n 0, 1) := by decide +kernel
theorem dX12_purchase_121 : decode cX12_purchase 121 = .ok (.getfield 332, 3) := by decide +kernel
theorem dX12_purchase_124 : decode cX12_purchase 124 = .ok (.imul, 1) := by decide +kernel
theorem dX12_purchase_125 : decode cX12_purchase 125 = .ok (.iload_n 1, 1) := by decide +kernel
theorem dX12_purchase_126 : decode cX12_purchase 126 = .ok (.i2l, 1) := by decide +kernel
theorem dX12_purchase_127 : decode cX12_purchase 127 = .ok (.lastore, 1) := by decide +kernel
theorem dX12_purchase_128 : decode cX12_purchase 128 = .ok (.aload_n 0, 1) := by decide +kernel
theorem dX12_purchase_129 : decode cX12_purchase 129 = .ok (.getfield 151, 3) := by decide +kernel
theorem dX12_purchase_132 : decode cX12_purchase 132 = .ok (.iconst 3, 1) := by decide +kernel
theorem dX12_purchase_133 : decode cX12_purchase 133 = .ok (.aload_n 0, 1) := by decide +kernel
theorem dX12_purchase_134 : decode cX12_purchase 134 = .ok (.getfield 332, 3) := by decide +kernel
theorem dX12_purchase_137 : decode cX12_purchase 137 = .ok (.imul, 1) := by decide +kernel
theorem dX12_purchase_138 : decode cX12_purchase 138 = .ok (.iconst 1, 1) := by decide +kernel
theorem dX12_purchase_139 : decode cX12_purchase 139 = .ok (.iadd, 1) := by decide +kernel
theorem dX12_purchase_140 : decode cX12_purchase 140 = .ok (.lload_n 3, 1) := by decide +kernel
theorem dX12_purchase_141 : decode cX12_purchase 141 = .ok (.lastore, 1) := by decide +kernel
theorem dX12_purchase_142 : decode cX12_purchase 142 = .ok (.aload_n 0, 1) := by decide +kernel
theorem dX12_purchase_143 : decode cX12_purchase 143 = .ok (.getfield 151, 3) := by decide +kernel
theorem dX12_purchase_146 : decode cX12_purchase 146 = .ok (.iconst 3, 1) := by decide +kernel
theorem dX12_purchase_147 : decode cX12_purchase 147 = .ok (.aload_n 0, 1) := by decide +kernel
theorem dX12_purchase_148 : decode cX12_purchase 148 = .ok (.getfield 332, 3) := by decide +kernel
theorem dX12_purchase_151 : decode cX12_purchase 151 = .ok (.imul, 1) := by decide +kernel
theorem dX12_purchase_152 : decode cX12_purchase 152 = .ok (.iconst 2, 1) := by decide +kernel
theorem dX12_purchase_153 : decode cX12_purchase 153 = .ok (.iadd, 1) := by decide +kernel
theorem dX12_purchase_154 : decode cX12_purchase 154 = .ok (.aload_n 0, 1) := by decide +kernel
theorem dX12_purchase_155 : decode cX12_purchase 155 = .ok (.getfield 120, 3) := by decide +kernel
theorem dX12_purchase_158 : decode cX12_purchase 158 = .ok (.iload_n 1, 1) := by decide +kernel
theorem dX12_purchase_159 : decode cX12_purchase 159 = .ok (.laload, 1) := by decide +kernel
theorem dX12_purchase_160 : decode cX12_purchase 160 = .ok (.lastore, 1) := by decide +kernel
theorem dX12_purchase_161 : decode cX12_purchase 161 = .ok (.aload_n 0, 1) := by decide +kernel
theorem dX12_purchase_162 : decode cX12_purchase 162 = .ok (.dup, 1) := by decide +kernel
theorem dX12_purchase_163 : decode cX12_purchase 163 = .ok (.getfield 332, 3) := by decide +kernel
theorem dX12_purchase_166 : decode cX12_purchase 166 = .ok (.iconst 1, 1) := by decide +kernel
theorem dX12_purchase_167 : decode cX12_purchase 167 = .ok (.iadd, 1) := by decide +kernel
theorem dX12_purchase_168 : decode cX12_purchase 168 = .ok (.putfield 332, 3) := by decide +kernel
theorem dX12_purchase_171 : decode cX12_purchase 171 = .ok (.aload_n 0, 1) := by decide +kernel
theorem dX12_purchase_172 : decode cX12_purchase 172 = .ok (.getfield 48, 3) := by decide +kernel
theorem dX12_purchase_175 : decode cX12_purchase 175 = .ok (.iconst 4, 1) := by decide +kernel
theorem dX12_purchase_176 : decode cX12_purchase 176 = .ok (.aload_n 0, 1) := by decide +kernel
theorem dX12_purchase_177 : decode cX12_purchase 177 = .ok (.getfield 120, 3) := by decide +kernel
theorem dX12_purchase_180 : decode cX12_purchase 180 = .ok (.iload_n 1, 1) := by decide +kernel
theorem dX12_purchase_181 : decode cX12_purchase 181 = .ok (.laload, 1) := by decide +kernel
theorem dX12_purchase_182 : decode cX12_purchase 182 = .ok (.lastore, 1) := by decide +kernel
theorem dX12_purchase_183 : decode cX12_purchase 183 = .ok (.aload_n 0, 1) := by decide +kernel
theorem dX12_purchase_184 : decode cX12_purchase 184 = .ok (.iload_n 1, 1) := by decide +kernel
theorem dX12_purchase_185 : decode cX12_purchase 185 = .ok (.iconst 1, 1) := by decide +kernel
theorem dX12_purchase_186 : decode cX12_purchase 186 = .ok (.iconst 2, 1) := by decide +kernel
theorem dX12_purchase_187 : decode cX12_purchase 187 = .ok (.invokevirtual 267, 3) := by decide +kernel
theorem dX12_purchase_190 : decode cX12_purchase 190 = .ok (.aload_n 0, 1) := by decide +kernel
theorem dX12_purchase_191 : decode cX12_purchase 191 = .ok (.getfield 120, 3) := by decide +kernel
theorem dX12_purchase_194 : decode cX12_purchase 194 = .ok (.iload_n 1, 1) := by decide +kernel
theorem dX12_purchase_195 : decode cX12_purchase 195 = .ok (.laload, 1) := by decide +kernel
theorem dX12_purchase_196 : decode cX12_purchase 196 = .ok (.l2i, 1) := by decide +kernel
theorem dX12_purchase_197 : decode cX12_purchase 197 = .ok (.ireturn, 1) := by decide +kernel
theorem dX12_alter_0 : decode cX12_alter 0 = .ok (.aload_n 0, 1) := by decide +kernel
theorem dX12_alter_1 : decode cX12_alter 1 = .ok (.iload_n 1, 1) := by decide +kernel
theorem dX12_alter_2 : decode cX12_alter 2 = .ok (.invokevirtual 191, 3) := by decide +kernel
theorem dX12_alter_5 : decode cX12_alter 5 = .ok (.ifCond .eq 29, 3) := by decide +kernel
theorem dX12_alter_8 : decode cX12_alter 8 = .ok (.iload_n 2, 1) := by decide +kernel
theorem dX12_alter_9 : decode cX12_alter 9 = .ok (.ifCond .lt 25, 3) := by decide +kernel
theorem dX12_alter_12 : decode cX12_alter 12 = .ok (.iload_n 2, 1) := by decide +kernel
theorem dX12_alter_13 : decode cX12_alter 13 = .ok (.aload_n 0, 1) := by decide +kernel
theorem dX12_alter_14 : decode cX12_alter 14 = .ok (.getfield 36, 3) := by decide +kernel
theorem dX12_alter_17 : decode cX12_alter 17 = .ok (.iload_n 1, 1) := by decide +kernel
theorem dX12_alter_18 : decode cX12_alter 18 = .ok (.iaload, 1) := by decide +kernel
theorem dX12_alter_19 : decode cX12_alter 19 = .ok (.if_icmp .ge 15, 3) := by decide +kernel
theorem dX12_alter_22 : decode cX12_alter 22 = .ok (.iload_n 3, 1) := by decide +kernel
theorem dX12_alter_23 : decode cX12_alter 23 = .ok (.i2l, 1) := by decide +kernel
theorem dX12_alter_24 : decode cX12_alter 24 = .ok (.lconst 0, 1) := by decide +kernel
theorem dX12_alter_25 : decode cX12_alter 25 = .ok (.ldc2_w 335, 3) := by decide +kernel
theorem dX12_alter_28 : decode cX12_alter 28 = .ok (.invokestatic 316, 3) := by decide +kernel
theorem dX12_alter_31 : decode cX12_alter 31 = .ok (.ifCond .ne 5, 3) := by decide +kernel
theorem dX12_alter_34 : decode cX12_alter 34 = .ok (.iconst 0, 1) := by decide +kernel
theorem dX12_alter_35 : decode cX12_alter 35 = .ok (.ireturn, 1) := by decide +kernel
theorem dX12_alter_36 : decode cX12_alter 36 = .ok (.aload_n 0, 1) := by decide +kernel
theorem dX12_alter_37 : decode cX12_alter 37 = .ok (.getfield 39, 3) := by decide +kernel
theorem dX12_alter_40 : decode cX12_alter 40 = .ok (.bipush 64, 2) := by decide +kernel
theorem dX12_alter_42 : decode cX12_alter 42 = .ok (.iload_n 1, 1) := by decide +kernel
theorem dX12_alter_43 : decode cX12_alter 43 = .ok (.imul, 1) := by decide +kernel
theorem dX12_alter_44 : decode cX12_alter 44 = .ok (.iload_n 2, 1) := by decide +kernel
theorem dX12_alter_45 : decode cX12_alter 45 = .ok (.iadd, 1) := by decide +kernel
theorem dX12_alter_46 : decode cX12_alter 46 = .ok (.iload_n 3, 1) := by decide +kernel
theorem dX12_alter_47 : decode cX12_alter 47 = .ok (.iastore, 1) := by decide +kernel
theorem dX12_alter_48 : decode cX12_alter 48 = .ok (.iconst 1, 1) := by decide +kernel
theorem dX12_alter_49 : decode cX12_alter 49 = .ok (.ireturn, 1) := by decide +kernel
theorem dX12_drop_0 : decode cX12_drop 0 = .ok (.aload_n 0, 1) := by decide +kernel
theorem dX12_drop_1 : decode cX12_drop 1 = .ok (.iload_n 1, 1) := by decide +kernel
theorem dX12_drop_2 : decode cX12_drop 2 = .ok (.invokevirtual 191, 3) := by decide +kernel
theorem dX12_drop_5 : decode cX12_drop 5 = .ok (.ifCond .ne 5, 3) := by decide +kernel
theorem dX12_drop_8 : decode cX12_drop 8 = .ok (.iconst 0, 1) := by decide +kernel
theorem dX12_drop_9 : decode cX12_drop 9 = .ok (.ireturn, 1) := by decide +kernel
theorem dX12_drop_10 : decode cX12_drop 10 = .ok (.aload_n 0, 1) := by decide +kernel
theorem dX12_drop_11 : decode cX12_drop 11 = .ok (.iload_n 1, 1) := by decide +kernel
theorem dX12_drop_12 : decode cX12_drop 12 = .ok (.invokevirtual 201, 3) := by decide +kernel
theorem dX12_drop_15 : decode cX12_drop 15 = .ok (.iconst 1, 1) := by decide +kernel
theorem dX12_drop_16 : decode cX12_drop 16 = .ok (.ireturn, 1) := by decide +kernel
end
section
theorem dX12_again_0 : decode cX12_again 0 = .ok (.aload_n 0, 1) := by decide +kernel
theorem dX12_again_1 : decode cX12_again 1 = .ok (.iload_n 1, 1) := by decide +kernel
theorem dX12_again_2 : decode cX12_again 2 = .ok (.invokevirtual 191, 3) := by decide +kernel
theorem dX12_again_5 : decode cX12_again 5 = .ok (.ifCond .eq 12, 3) := by decide +kernel
theorem dX12_again_8 : decode cX12_again 8 = .ok (.aload_n 0, 1) := by decide +kernel
theorem dX12_again_9 : decode cX12_again 9 = .ok (.getfield 171, 3) := by decide +kernel
theorem dX12_again_12 : decode cX12_again 12 = .ok (.bipush 60, 2) := by decide +kernel
theorem dX12_again_14 : decode cX12_again 14 = .ok (.if_icmp .ne 5, 3) := by decide +kernel
theorem dX12_again_17 : decode cX12_again 17 = .ok (.iconst 0, 1) := by decide +kernel
theorem dX12_again_18 : decode cX12_again 18 = .ok (.ireturn, 1) := by decide +kernel
theorem dX12_again_19 : decode cX12_again 19 = .ok (.iconst 0, 1) := by decide +kernel
theorem dX12_again_20 : decode cX12_again 20 = .ok (.istore_n 2, 1) := by decide +kernel
theorem dX12_again_21 : decode cX12_again 21 = .ok (.iload_n 2, 1) := by decide +kernel
theorem dX12_again_22 : decode cX12_again 22 = .ok (.bipush 64, 2) := by decide +kernel
theorem dX12_again_24 : decode cX12_again 24 = .ok (.if_icmp .ge 34, 3) := by decide +kernel
theorem dX12_again_27 : decode cX12_again 27 = .ok (.aload_n 0, 1) := by decide +kernel
theorem dX12_again_28 : decode cX12_again 28 = .ok (.getfield 39, 3) := by decide +kernel
theorem dX12_again_31 : decode cX12_again 31 = .ok (.bipush 64, 2) := by decide +kernel
theorem dX12_again_33 : decode cX12_again 33 = .ok (.aload_n 0, 1) := by decide +kernel
theorem dX12_again_34 : decode cX12_again 34 = .ok (.getfield 171, 3) := by decide +kernel
theorem dX12_again_37 : decode cX12_again 37 = .ok (.imul, 1) := by decide +kernel
theorem dX12_again_38 : decode cX12_again 38 = .ok (.iload_n 2, 1) := by decide +kernel
theorem dX12_again_39 : decode cX12_again 39 = .ok (.iadd, 1) := by decide +kernel
theorem dX12_again_40 : decode cX12_again 40 = .ok (.aload_n 0, 1) := by decide +kernel
theorem dX12_again_41 : decode cX12_again 41 = .ok (.getfield 39, 3) := by decide +kernel
theorem dX12_again_44 : decode cX12_again 44 = .ok (.bipush 64, 2) := by decide +kernel
theorem dX12_again_46 : decode cX12_again 46 = .ok (.iload_n 1, 1) := by decide +kernel
theorem dX12_again_47 : decode cX12_again 47 = .ok (.imul, 1) := by decide +kernel
theorem dX12_again_48 : decode cX12_again 48 = .ok (.iload_n 2, 1) := by decide +kernel
theorem dX12_again_49 : decode cX12_again 49 = .ok (.iadd, 1) := by decide +kernel
theorem dX12_again_50 : decode cX12_again 50 = .ok (.iaload, 1) := by decide +kernel
theorem dX12_again_51 : decode cX12_again 51 = .ok (.iastore, 1) := by decide +kernel
theorem dX12_again_52 : decode cX12_again 52 = .ok (.iinc 2 1, 3) := by decide +kernel
theorem dX12_again_55 : decode cX12_again 55 = .ok (.goto (-34), 3) := by decide +kernel
theorem dX12_again_58 : decode cX12_again 58 = .ok (.aload_n 0, 1) := by decide +kernel
theorem dX12_again_59 : decode cX12_again 59 = .ok (.aload_n 0, 1) := by decide +kernel
theorem dX12_again_60 : decode cX12_again 60 = .ok (.getfield 24, 3) := by decide +kernel
theorem dX12_again_63 : decode cX12_again 63 = .ok (.iload_n 1, 1) := by decide +kernel
theorem dX12_again_64 : decode cX12_again 64 = .ok (.iaload, 1) := by decide +kernel
theorem dX12_again_65 : decode cX12_again 65 = .ok (.aload_n 0, 1) := by decide +kernel
theorem dX12_again_66 : decode cX12_again 66 = .ok (.getfield 27, 3) := by decide +kernel
theorem dX12_again_69 : decode cX12_again 69 = .ok (.iload_n 1, 1) := by decide +kernel
theorem dX12_again_70 : decode cX12_again 70 = .ok (.iaload, 1) := by decide +kernel
theorem dX12_again_71 : decode cX12_again 71 = .ok (.aload_n 0, 1) := by decide +kernel
theorem dX12_again_72 : decode cX12_again 72 = .ok (.getfield 30, 3) := by decide +kernel
theorem dX12_again_75 : decode cX12_again 75 = .ok (.iload_n 1, 1) := by decide +kernel
theorem dX12_again_76 : decode cX12_again 76 = .ok (.iaload, 1) := by decide +kernel
theorem dX12_again_77 : decode cX12_again 77 = .ok (.aload_n 0, 1) := by decide +kernel
theorem dX12_again_78 : decode cX12_again 78 = .ok (.getfield 33, 3) := by decide +kernel
theorem dX12_again_81 : decode cX12_again 81 = .ok (.iload_n 1, 1) := by decide +kernel
theorem dX12_again_82 : decode cX12_again 82 = .ok (.iaload, 1) := by decide +kernel
theorem dX12_again_83 : decode cX12_again 83 = .ok (.aload_n 0, 1) := by decide +kernel
theorem dX12_again_84 : decode cX12_again 84 = .ok (.getfield 36, 3) := by decide +kernel
theorem dX12_again_87 : decode cX12_again 87 = .ok (.iload_n 1, 1) := by decide +kernel
theorem dX12_again_88 : decode cX12_again 88 = .ok (.iaload, 1) := by decide +kernel
theorem dX12_again_89 : decode cX12_again 89 = .ok (.invokevirtual 182, 3) := by decide +kernel
theorem dX12_again_92 : decode cX12_again 92 = .ok (.iconst 1, 1) := by decide +kernel
theorem dX12_again_93 : decode cX12_again 93 = .ok (.ireturn, 1) := by decide +kernel
theorem dX12_put_0 : decode cX12_put 0 = .ok (.aload_n 0, 1) := by decide +kernel
theorem dX12_put_1 : decode cX12_put 1 = .ok (.getfield 337, 3) := by decide +kernel
theorem dX12_put_4 : decode cX12_put 4 = .ok (.bipush 64, 2) := by decide +kernel
theorem dX12_put_6 : decode cX12_put 6 = .ok (.if_icmp .eq 15, 3) := by decide +kernel
theorem dX12_put_9 : decode cX12_put 9 = .ok (.iload_n 1, 1) := by decide +kernel
theorem dX12_put_10 : decode cX12_put 10 = .ok (.i2l, 1) := by decide +kernel
theorem dX12_put_11 : decode cX12_put 11 = .ok (.lconst 0, 1) := by decide +kernel
theorem dX12_put_12 : decode cX12_put 12 = .ok (.ldc2_w 335, 3) := by decide +kernel
theorem dX12_put_15 : decode cX12_put 15 = .ok (.invokestatic 316, 3) := by decide +kernel
theorem dX12_put_18 : decode cX12_put 18 = .ok (.ifCond .ne 5, 3) := by decide +kernel
theorem dX12_put_21 : decode cX12_put 21 = .ok (.iconst (-1), 1) := by decide +kernel
theorem dX12_put_22 : decode cX12_put 22 = .ok (.ireturn, 1) := by decide +kernel
theorem dX12_put_23 : decode cX12_put 23 = .ok (.aload_n 0, 1) := by decide +kernel
theorem dX12_put_24 : decode cX12_put 24 = .ok (.getfield 51, 3) := by decide +kernel
theorem dX12_put_27 : decode cX12_put 27 = .ok (.aload_n 0, 1) := by decide +kernel
theorem dX12_put_28 : decode cX12_put 28 = .ok (.getfield 337, 3) := by decide +kernel
theorem dX12_put_31 : decode cX12_put 31 = .ok (.iload_n 1, 1) := by decide +kernel
theorem dX12_put_32 : decode cX12_put 32 = .ok (.iastore, 1) := by decide +kernel
theorem dX12_put_33 : decode cX12_put 33 = .ok (.aload_n 0, 1) := by decide +kernel
theorem dX12_put_34 : decode cX12_put 34 = .ok (.dup, 1) := by decide +kernel
theorem dX12_put_35 : decode cX12_put 35 = .ok (.getfield 337, 3) := by decide +kernel
theorem dX12_put_38 : decode cX12_put 38 = .ok (.iconst 1, 1) := by decide +kernel
theorem dX12_put_39 : decode cX12_put 39 = .ok (.iadd, 1) := by decide +kernel
theorem dX12_put_40 : decode cX12_put 40 = .ok (.putfield 337, 3) := by decide +kernel
theorem dX12_put_43 : decode cX12_put 43 = .ok (.aload_n 0, 1) := by decide +kernel
theorem dX12_put_44 : decode cX12_put 44 = .ok (.getfield 337, 3) := by decide +kernel
theorem dX12_put_47 : decode cX12_put 47 = .ok (.ireturn, 1) := by decide +kernel
theorem dX12_isThere_0 : decode cX12_isThere 0 = .ok (.iload_n 2, 1) := by decide +kernel
theorem dX12_isThere_1 : decode cX12_isThere 1 = .ok (.ifCond .lt 47, 3) := by decide +kernel
theorem dX12_isThere_4 : decode cX12_isThere 4 = .ok (.iload_n 1, 1) := by decide +kernel
theorem dX12_isThere_5 : decode cX12_isThere 5 = .ok (.ifCond .ne 14, 3) := by decide +kernel
theorem dX12_isThere_8 : decode cX12_isThere 8 = .ok (.iload_n 2, 1) := by decide +kernel
theorem dX12_isThere_9 : decode cX12_isThere 9 = .ok (.aload_n 0, 1) := by decide +kernel
theorem dX12_isThere_10 : decode cX12_isThere 10 = .ok (.getfield 286, 3) := by decide +kernel
theorem dX12_isThere_13 : decode cX12_isThere 13 = .ok (.if_icmp .ge 35, 3) := by decide +kernel
theorem dX12_isThere_16 : decode cX12_isThere 16 = .ok (.goto 28, 3) := by decide +kernel
theorem dX12_isThere_19 : decode cX12_isThere 19 = .ok (.iload_n 1, 1) := by decide +kernel
theorem dX12_isThere_20 : decode cX12_isThere 20 = .ok (.iconst 1, 1) := by decide +kernel
theorem dX12_isThere_21 : decode cX12_isThere 21 = .ok (.if_icmp .ne 14, 3) := by decide +kernel
theorem dX12_isThere_24 : decode cX12_isThere 24 = .ok (.iload_n 2, 1) := by decide +kernel
theorem dX12_isThere_25 : decode cX12_isThere 25 = .ok (.aload_n 0, 1) := by decide +kernel
theorem dX12_isThere_26 : decode cX12_isThere 26 = .ok (.getfield 299, 3) := by decide +kernel
theorem dX12_isThere_29 : decode cX12_isThere 29 = .ok (.if_icmp .ge 19, 3) := by decide +kernel
theorem dX12_isThere_32 : decode cX12_isThere 32 = .ok (.goto 12, 3) := by decide +kernel
theorem dX12_isThere_35 : decode cX12_isThere 35 = .ok (.iload_n 1, 1) := by decide +kernel
theorem dX12_isThere_36 : decode cX12_isThere 36 = .ok (.iconst 2, 1) := by decide +kernel
theorem dX12_isThere_37 : decode cX12_isThere 37 = .ok (.if_icmp .ne 11, 3) := by decide +kernel
theorem dX12_isThere_40 : decode cX12_isThere 40 = .ok (.iload_n 2, 1) := by decide +kernel
theorem dX12_isThere_41 : decode cX12_isThere 41 = .ok (.ifCond .ne 7, 3) := by decide +kernel
theorem dX12_isThere_44 : decode cX12_isThere 44 = .ok (.iconst 1, 1) := by decide +kernel
theorem dX12_isThere_45 : decode cX12_isThere 45 = .ok (.goto 4, 3) := by decide +kernel
theorem dX12_isThere_48 : decode cX12_isThere 48 = .ok (.iconst 0, 1) := by decide +kernel
theorem dX12_isThere_49 : decode cX12_isThere 49 = .ok (.ireturn, 1) := by decide +kernel
theorem dX12_inject_0 : decode cX12_inject 0 = .ok (.aload_n 0, 1) := by decide +kernel
theorem dX12_inject_1 : decode cX12_inject 1 = .ok (.iload_n 1, 1) := by decide +kernel
theorem dX12_inject_2 : decode cX12_inject 2 = .ok (.iload_n 2, 1) := by decide +kernel
theorem dX12_inject_3 : decode cX12_inject 3 = .ok (.invokevirtual 340, 3) := by decide +kernel
theorem dX12_inject_6 : decode cX12_inject 6 = .ok (.ifCond .eq 29, 3) := by decide +kernel
theorem dX12_inject_9 : decode cX12_inject 9 = .ok (.aload_n 0, 1) := by decide +kernel
theorem dX12_inject_10 : decode cX12_inject 10 = .ok (.iload_n 3, 1) := by decide +kernel
theorem dX12_inject_11 : decode cX12_inject 11 = .ok (.iload 4, 2) := by decide +kernel
theorem dX12_inject_13 : decode cX12_inject 13 = .ok (.invokevirtual 340, 3) := by decide +kernel
theorem dX12_inject_16 : decode cX12_inject 16 = .ok (.ifCond .eq 19, 3) := by decide +kernel
theorem dX12_inject_19 : decode cX12_inject 19 = .ok (.aload_n 0, 1) := by decide +kernel
theorem dX12_inject_20 : decode cX12_inject 20 = .ok (.getfield 337, 3) := by decide +kernel
theorem dX12_inject_23 : decode cX12_inject 23 = .ok (.ifCond .eq 12, 3) := by decide +kernel
theorem dX12_inject_26 : decode cX12_inject 26 = .ok (.aload_n 0, 1) := by decide +kernel
theorem dX12_inject_27 : decode cX12_inject 27 = .ok (.getfield 171, 3) := by decide +kernel
theorem dX12_inject_30 : decode cX12_inject 30 = .ok (.bipush 60, 2) := by decide +kernel
theorem dX12_inject_32 : decode cX12_inject 32 = .ok (.if_icmp .ne 5, 3) := by decide +kernel
theorem dX12_inject_35 : decode cX12_inject 35 = .ok (.iconst 0, 1) := by decide +kernel
theorem dX12_inject_36 : decode cX12_inject 36 = .ok (.ireturn, 1) := by decide +kernel
theorem dX12_inject_37 : decode cX12_inject 37 = .ok (.iconst 0, 1) := by decide +kernel
theorem dX12_inject_38 : decode cX12_inject 38 = .ok (.istore 5, 2) := by decide +kernel
theorem dX12_inject_40 : decode cX12_inject 40 = .ok (.iload 5, 2) := by decide +kernel
theorem dX12_inject_42 : decode cX12_inject 42 = .ok (.aload_n 0, 1) := by decide +kernel
theorem dX12_inject_43 : decode cX12_inject 43 = .ok (.getfield 337, 3) := by decide +kernel
theorem dX12_inject_46 : decode cX12_inject 46 = .ok (.if_icmp .ge 31, 3) := by decide +kernel
theorem dX12_inject_49 : decode cX12_inject 49 = .ok (.aload_n 0, 1) := by decide +kernel
theorem dX12_inject_50 : decode cX12_inject 50 = .ok (.getfield 39, 3) := by decide +kernel
theorem dX12_inject_53 : decode cX12_inject 53 = .ok (.bipush 64, 2) := by decide +kernel
theorem dX12_inject_55 : decode cX12_inject 55 = .ok (.aload_n 0, 1) := by decide +kernel
theorem dX12_inject_56 : decode cX12_inject 56 = .ok (.getfield 171, 3) := by decide +kernel
theorem dX12_inject_59 : decode cX12_inject 59 = .ok (.imul, 1) := by decide +kernel
theorem dX12_inject_60 : decode cX12_inject 60 = .ok (.iload 5, 2) := by decide +kernel
theorem dX12_inject_62 : decode cX12_inject 62 = .ok (.iadd, 1) := by decide +kernel
theorem dX12_inject_63 : decode cX12_inject 63 = .ok (.aload_n 0, 1) := by decide +kernel
theorem dX12_inject_64 : decode cX12_inject 64 = .ok (.getfield 51, 3) := by decide +kernel
theorem dX12_inject_67 : decode cX12_inject 67 = .ok (.iload 5, 2) := by decide +kernel
theorem dX12_inject_69 : decode cX12_inject 69 = .ok (.iaload, 1) := by decide +kernel
theorem dX12_inject_70 : decode cX12_inject 70 = .ok (.iastore, 1) := by decide +kernel
theorem dX12_inject_71 : decode cX12_inject 71 = .ok (.iinc 5 1, 3) := by decide +kernel
theorem dX12_inject_74 : decode cX12_inject 74 = .ok (.goto (-34), 3) := by decide +kernel
theorem dX12_inject_77 : decode cX12_inject 77 = .ok (.aload_n 0, 1) := by decide +kernel
theorem dX12_inject_78 : decode cX12_inject 78 = .ok (.iload_n 1, 1) := by decide +kernel
theorem dX12_inject_79 : decode cX12_inject 79 = .ok (.iload_n 2, 1) := by decide +kernel
theorem dX12_inject_80 : decode cX12_inject 80 = .ok (.iload_n 3, 1) := by decide +kernel
theorem dX12_inject_81 : decode cX12_inject 81 = .ok (.iload 4, 2) := by decide +kernel
theorem dX12_inject_83 : decode cX12_inject 83 = .ok (.aload_n 0, 1) := by decide +kernel
theorem dX12_inject_84 : decode cX12_inject 84 = .ok (.getfield 337, 3) := by decide +kernel
theorem dX12_inject_87 : decode cX12_inject 87 = .ok (.invokevirtual 182, 3) := by decide +kernel
theorem dX12_inject_90 : decode cX12_inject 90 = .ok (.aload_n 0, 1) := by decide +kernel
theorem dX12_inject_91 : decode cX12_inject 91 = .ok (.iconst 0, 1) := by decide +kernel
theorem dX12_inject_92 : decode cX12_inject 92 = .ok (.putfield 337, 3) := by decide +kernel
theorem dX12_inject_95 : decode cX12_inject 95 = .ok (.iconst 1, 1) := by decide +kernel
theorem dX12_inject_96 : decode cX12_inject 96 = .ok (.ireturn, 1) := by decide +kernel
theorem dX12_power_0 : decode cX12_power 0 = .ok (.iload_n 1, 1) := by decide +kernel
theorem dX12_power_1 : decode cX12_power 1 = .ok (.ifCond .lt 23, 3) := by decide +kernel
theorem dX12_power_4 : decode cX12_power 4 = .ok (.iload_n 1, 1) := by decide +kernel
theorem dX12_power_5 : decode cX12_power 5 = .ok (.aload_n 0, 1) := by decide +kernel
theorem dX12_power_6 : decode cX12_power 6 = .ok (.getfield 286, 3) := by decide +kernel
theorem dX12_power_9 : decode cX12_power 9 = .ok (.if_icmp .ge 15, 3) := by decide +kernel
theorem dX12_power_12 : decode cX12_power 12 = .ok (.iload_n 2, 1) := by decide +kernel
theorem dX12_power_13 : decode cX12_power 13 = .ok (.i2l, 1) := by decide +kernel
theorem dX12_power_14 : decode cX12_power 14 = .ok (.lconst 0, 1) := by decide +kernel
theorem dX12_power_15 : decode cX12_power 15 = .ok (.ldc2_w 322, 3) := by decide +kernel
theorem dX12_power_18 : decode cX12_power 18 = .ok (.invokestatic 316, 3) := by decide +kernel
theorem dX12_power_21 : decode cX12_power 21 = .ok (.ifCond .ne 5, 3) := by decide +kernel
theorem dX12_power_24 : decode cX12_power 24 = .ok (.iconst 0, 1) := by decide +kernel
theorem dX12_power_25 : decode cX12_power 25 = .ok (.ireturn, 1) := by decide +kernel
theorem dX12_power_26 : decode cX12_power 26 = .ok (.aload_n 0, 1) := by decide +kernel
theorem dX12_power_27 : decode cX12_power 27 = .ok (.getfield 93, 3) := by decide +kernel
theorem dX12_power_30 : decode cX12_power 30 = .ok (.iload_n 1, 1) := by decide +kernel
theorem dX12_power_31 : decode cX12_power 31 = .ok (.iload_n 2, 1) := by decide +kernel
theorem dX12_power_32 : decode cX12_power 32 = .ok (.iastore, 1) := by decide +kernel
theorem dX12_power_33 : decode cX12_power 33 = .ok (.iconst 1, 1) := by decide +kernel
theorem dX12_power_34 : decode cX12_power 34 = .ok (.ireturn, 1) := by decide +kernel
theorem dX12_tick_0 : decode cX12_tick 0 = .ok (.iload_n 1, 1) := by decide +kernel
theorem dX12_tick_1 : decode cX12_tick 1 = .ok (.i2l, 1) := by decide +kernel
theorem dX12_tick_2 : decode cX12_tick 2 = .ok (.lconst 1, 1) := by decide +kernel
theorem dX12_tick_3 : decode cX12_tick 3 = .ok (.ldc2_w 343, 3) := by decide +kernel
theorem dX12_tick_6 : decode cX12_tick 6 = .ok (.invokestatic 316, 3) := by decide +kernel
theorem dX12_tick_9 : decode cX12_tick 9 = .ok (.ifCond .ne 5, 3) := by decide +kernel
theorem dX12_tick_12 : decode cX12_tick 12 = .ok (.iconst (-1), 1) := by decide +kernel
theorem dX12_tick_13 : decode cX12_tick 13 = .ok (.ireturn, 1) := by decide +kernel
theorem dX12_tick_14 : decode cX12_tick 14 = .ok (.aload_n 0, 1) := by decide +kernel
theorem dX12_tick_15 : decode cX12_tick 15 = .ok (.dup, 1) := by decide +kernel
theorem dX12_tick_16 : decode cX12_tick 16 = .ok (.getfield 263, 3) := by decide +kernel
theorem dX12_tick_19 : decode cX12_tick 19 = .ok (.iload_n 1, 1) := by decide +kernel
theorem dX12_tick_20 : decode cX12_tick 20 = .ok (.i2l, 1) := by decide +kernel
theorem dX12_tick_21 : decode cX12_tick 21 = .ok (.ladd, 1) := by decide +kernel
theorem dX12_tick_22 : decode cX12_tick 22 = .ok (.putfield 263, 3) := by decide +kernel
theorem dX12_tick_25 : decode cX12_tick 25 = .ok (.iconst 0, 1) := by decide +kernel
theorem dX12_tick_26 : decode cX12_tick 26 = .ok (.istore_n 2, 1) := by decide +kernel
theorem dX12_tick_27 : decode cX12_tick 27 = .ok (.iconst 0, 1) := by decide +kernel
theorem dX12_tick_28 : decode cX12_tick 28 = .ok (.istore_n 3, 1) := by decide +kernel
theorem dX12_tick_29 : decode cX12_tick 29 = .ok (.iload_n 3, 1) := by decide +kernel
theorem dX12_tick_30 : decode cX12_tick 30 = .ok (.aload_n 0, 1) := by decide +kernel
theorem dX12_tick_31 : decode cX12_tick 31 = .ok (.getfield 299, 3) := by decide +kernel
theorem dX12_tick_34 : decode cX12_tick 34 = .ok (.if_icmp .ge 45, 3) := by decide +kernel
theorem dX12_tick_37 : decode cX12_tick 37 = .ok (.aload_n 0, 1) := by decide +kernel
theorem dX12_tick_38 : decode cX12_tick 38 = .ok (.getfield 108, 3) := by decide +kernel
theorem dX12_tick_41 : decode cX12_tick 41 = .ok (.iload_n 3, 1) := by decide +kernel
theorem dX12_tick_42 : decode cX12_tick 42 = .ok (.iaload, 1) := by decide +kernel
theorem dX12_tick_43 : decode cX12_tick 43 = .ok (.ifCond .eq 30, 3) := by decide +kernel
theorem dX12_tick_46 : decode cX12_tick 46 = .ok (.aload_n 0, 1) := by decide +kernel
theorem dX12_tick_47 : decode cX12_tick 47 = .ok (.getfield 263, 3) := by decide +kernel
theorem dX12_tick_50 : decode cX12_tick 50 = .ok (.aload_n 0, 1) := by decide +kernel
theorem dX12_tick_51 : decode cX12_tick 51 = .ok (.getfield 111, 3) := by decide +kernel
theorem dX12_tick_54 : decode cX12_tick 54 = .ok (.iload_n 3, 1) := by decide +kernel
theorem dX12_tick_55 : decode cX12_tick 55 = .ok (.laload, 1) := by decide +kernel
theorem dX12_tick_56 : decode cX12_tick 56 = .ok (.lsub, 1) := by decide +kernel
theorem dX12_tick_57 : decode cX12_tick 57 = .ok (.ldc2_w 345, 3) := by decide +kernel
theorem dX12_tick_60 : decode cX12_tick 60 = .ok (.lcmp, 1) := by decide +kernel
theorem dX12_tick_61 : decode cX12_tick 61 = .ok (.ifCond .le 12, 3) := by decide +kernel
theorem dX12_tick_64 : decode cX12_tick 64 = .ok (.aload_n 0, 1) := by decide +kernel
theorem dX12_tick_65 : decode cX12_tick 65 = .ok (.iload_n 3, 1) := by decide +kernel
theorem dX12_tick_66 : decode cX12_tick 66 = .ok (.iconst 4, 1) := by decide +kernel
theorem dX12_tick_67 : decode cX12_tick 67 = .ok (.invokevirtual 277, 3) := by decide +kernel
theorem dX12_tick_70 : decode cX12_tick 70 = .ok (.iinc 2 1, 3) := by decide +kernel
theorem dX12_tick_73 : decode cX12_tick 73 = .ok (.iinc 3 1, 3) := by decide +kernel
theorem dX12_tick_76 : decode cX12_tick 76 = .ok (.goto (-47), 3) := by decide +kernel
theorem dX12_tick_79 : decode cX12_tick 79 = .ok (.iload_n 2, 1) := by decide +kernel
theorem dX12_tick_80 : decode cX12_tick 80 = .ok (.ireturn, 1) := by decide +kernel
theorem dX12_clear_0 : decode cX12_clear 0 = .ok (.iload_n 1, 1) := by decide +kernel
theorem dX12_clear_1 : decode cX12_clear 1 = .ok (.ifCond .lt 11, 3) := by decide +kernel
theorem dX12_clear_4 : decode cX12_clear 4 = .ok (.iload_n 1, 1) := by decide +kernel
theorem dX12_clear_5 : decode cX12_clear 5 = .ok (.aload_n 0, 1) := by decide +kernel
theorem dX12_clear_6 : decode cX12_clear 6 = .ok (.getfield 299, 3) := by decide +kernel
theorem dX12_clear_9 : decode cX12_clear 9 = .ok (.if_icmp .lt 5, 3) := by decide +kernel
theorem dX12_clear_12 : decode cX12_clear 12 = .ok (.iconst (-1), 1) := by decide +kernel
theorem dX12_clear_13 : decode cX12_clear 13 = .ok (.ireturn, 1) := by decide +kernel
theorem dX12_clear_14 : decode cX12_clear 14 = .ok (.iconst 0, 1) := by decide +kernel
theorem dX12_clear_15 : decode cX12_clear 15 = .ok (.istore_n 2, 1) := by decide +kernel
theorem dX12_clear_16 : decode cX12_clear 16 = .ok (.iconst 0, 1) := by decide +kernel
theorem dX12_clear_17 : decode cX12_clear 17 = .ok (.istore_n 3, 1) := by decide +kernel
theorem dX12_clear_18 : decode cX12_clear 18 = .ok (.iload_n 3, 1) := by decide +kernel
theorem dX12_clear_19 : decode cX12_clear 19 = .ok (.aload_n 0, 1) := by decide +kernel
theorem dX12_clear_20 : decode cX12_clear 20 = .ok (.getfield 296, 3) := by decide +kernel
theorem dX12_clear_23 : decode cX12_clear 23 = .ok (.if_icmp .ge 112, 3) := by decide +kernel
theorem dX12_clear_26 : decode cX12_clear 26 = .ok (.aload_n 0, 1) := by decide +kernel
theorem dX12_clear_27 : decode cX12_clear 27 = .ok (.getfield 141, 3) := by decide +kernel
theorem dX12_clear_30 : decode cX12_clear 30 = .ok (.iload_n 3, 1) := by decide +kernel
theorem dX12_clear_31 : decode cX12_clear 31 = .ok (.iaload, 1) := by decide +kernel
theorem dX12_clear_32 : decode cX12_clear 32 = .ok (.iload_n 1, 1) := by decide +kernel
theorem dX12_clear_33 : decode cX12_clear 33 = .ok (.if_icmp .ne 96, 3) := by decide +kernel
theorem dX12_clear_36 : decode cX12_clear 36 = .ok (.aload_n 0, 1) := by decide +kernel
theorem dX12_clear_37 : decode cX12_clear 37 = .ok (.getfield 144, 3) := by decide +kernel
theorem dX12_clear_40 : decode cX12_clear 40 = .ok (.iload_n 3, 1) := by decide +kernel
theorem dX12_clear_41 : decode cX12_clear 41 = .ok (.baload, 1) := by decide +kernel
theorem dX12_clear_42 : decode cX12_clear 42 = .ok (.ifCond .ne 87, 3) := by decide +kernel
theorem dX12_clear_45 : decode cX12_clear 45 = .ok (.aload_n 0, 1) := by decide +kernel
theorem dX12_clear_46 : decode cX12_clear 46 = .ok (.getfield 144, 3) := by decide +kernel
theorem dX12_clear_49 : decode cX12_clear 49 = .ok (.iload_n 3, 1) := by decide +kernel
theorem dX12_clear_50 : decode cX12_clear 50 = .ok (.iconst 1, 1) := by decide +kernel
theorem dX12_clear_51 : decode cX12_clear 51 = .ok (.bastore, 1) := by decide +kernel
theorem dX12_clear_52 : decode cX12_clear 52 = .ok (.iconst 0, 1) := by decide +kernel
theorem dX12_clear_53 : decode cX12_clear 53 = .ok (.istore 4, 2) := by decide +kernel
theorem dX12_clear_55 : decode cX12_clear 55 = .ok (.iload 4, 2) := by decide +kernel
theorem dX12_clear_57 : decode cX12_clear 57 = .ok (.bipush 7, 2) := by decide +kernel
theorem dX12_clear_59 : decode cX12_clear 59 = .ok (.if_icmp .ge 42, 3) := by decide +kernel
theorem dX12_clear_62 : decode cX12_clear 62 = .ok (.aload_n 0, 1) := by decide +kernel
theorem dX12_clear_63 : decode cX12_clear 63 = .ok (.getfield 48, 3) := by decide +kernel
theorem dX12_clear_66 : decode cX12_clear 66 = .ok (.iload 4, 2) := by decide +kernel
theorem dX12_clear_68 : decode cX12_clear 68 = .ok (.bipush 6, 2) := by decide +kernel
theorem dX12_clear_70 : decode cX12_clear 70 = .ok (.if_icmp .ge 10, 3) := by decide +kernel
theorem dX12_clear_73 : decode cX12_clear 73 = .ok (.iload 4, 2) := by decide +kernel
theorem dX12_clear_75 : decode cX12_clear 75 = .ok (.iconst 1, 1) := by decide +kernel
theorem dX12_clear_76 : decode cX12_clear 76 = .ok (.iadd, 1) := by decide +kernel
theorem dX12_clear_77 : decode cX12_clear 77 = .ok (.goto 5, 3) := by decide +kernel
theorem dX12_clear_80 : decode cX12_clear 80 = .ok (.bipush 8, 2) := by decide +kernel
theorem dX12_clear_82 : decode cX12_clear 82 = .ok (.aload_n 0, 1) := by decide +kernel
theorem dX12_clear_83 : decode cX12_clear 83 = .ok (.getfield 148, 3) := by decide +kernel
theorem dX12_clear_86 : decode cX12_clear 86 = .ok (.bipush 7, 2) := by decide +kernel
theorem dX12_clear_88 : decode cX12_clear 88 = .ok (.iload_n 3, 1) := by decide +kernel
theorem dX12_clear_89 : decode cX12_clear 89 = .ok (.imul, 1) := by decide +kernel
theorem dX12_clear_90 : decode cX12_clear 90 = .ok (.iload 4, 2) := by decide +kernel
theorem dX12_clear_92 : decode cX12_clear 92 = .ok (.iadd, 1) := by decide +kernel
theorem dX12_clear_93 : decode cX12_clear 93 = .ok (.laload, 1) := by decide +kernel
theorem dX12_clear_94 : decode cX12_clear 94 = .ok (.lastore, 1) := by decide +kernel
theorem dX12_clear_95 : decode cX12_clear 95 = .ok (.iinc 4 1, 3) := by decide +kernel
theorem dX12_clear_98 : decode cX12_clear 98 = .ok (.goto (-43), 3) := by decide +kernel
theorem dX12_clear_101 : decode cX12_clear 101 = .ok (.aload_n 0, 1) := by decide +kernel
theorem dX12_clear_102 : decode cX12_clear 102 = .ok (.iload_n 1, 1) := by decide +kernel
theorem dX12_clear_103 : decode cX12_clear 103 = .ok (.bipush 11, 2) := by decide +kernel
theorem dX12_clear_105 : decode cX12_clear 105 = .ok (.invokevirtual 293, 3) := by decide +kernel
theorem dX12_clear_108 : decode cX12_clear 108 = .ok (.iload_n 2, 1) := by decide +kernel
theorem dX12_clear_109 : decode cX12_clear 109 = .ok (.aload_n 0, 1) := by decide +kernel
theorem dX12_clear_110 : decode cX12_clear 110 = .ok (.bipush 11, 2) := by decide +kernel
theorem dX12_clear_112 : decode cX12_clear 112 = .ok (.iconst 1, 1) := by decide +kernel
theorem dX12_clear_113 : decode cX12_clear 113 = .ok (.iload_n 1, 1) := by decide +kernel
theorem dX12_clear_114 : decode cX12_clear 114 = .ok (.iconst 2, 1) := by decide +kernel
theorem dX12_clear_115 : decode cX12_clear 115 = .ok (.iconst 0, 1) := by decide +kernel
theorem dX12_clear_116 : decode cX12_clear 116 = .ok (.invokevirtual 217, 3) := by decide +kernel
theorem dX12_clear_119 : decode cX12_clear 119 = .ok (.ifCond .eq 7, 3) := by decide +kernel
theorem dX12_clear_122 : decode cX12_clear 122 = .ok (.iconst 1, 1) := by decide +kernel
theorem dX12_clear_123 : decode cX12_clear 123 = .ok (.goto 4, 3) := by decide +kernel
theorem dX12_clear_126 : decode cX12_clear 126 = .ok (.iconst 0, 1) := by decide +kernel
theorem dX12_clear_127 : decode cX12_clear 127 = .ok (.iadd, 1) := by decide +kernel
theorem dX12_clear_128 : decode cX12_clear 128 = .ok (.istore_n 2, 1) := by decide +kernel
theorem dX12_clear_129 : decode cX12_clear 129 = .ok (.iinc 3 1, 3) := by decide +kernel
theorem dX12_clear_132 : decode cX12_clear 132 = .ok (.goto (-114), 3) := by decide +kernel
theorem dX12_clear_135 : decode cX12_clear 135 = .ok (.iload_n 2, 1) := by decide +kernel
theorem dX12_clear_136 : decode cX12_clear 136 = .ok (.ireturn, 1) := by decide +kernel
theorem dX12_count_0 : decode cX12_count 0 = .ok (.iload_n 1, 1) := by decide +kernel
theorem dX12_count_1 : decode cX12_count 1 = .ok (.ifCond .ne 10, 3) := by decide +kernel
theorem dX12_count_4 : decode cX12_count 4 = .ok (.aload_n 0, 1) := by decide +kernel
theorem dX12_count_5 : decode cX12_count 5 = .ok (.getfield 286, 3) := by decide +kernel
theorem dX12_count_8 : decode cX12_count 8 = .ok (.goto 64, 3) := by decide +kernel
theorem dX12_count_11 : decode cX12_count 11 = .ok (.iload_n 1, 1) := by decide +kernel
theorem dX12_count_12 : decode cX12_count 12 = .ok (.iconst 1, 1) := by decide +kernel
theorem dX12_count_13 : decode cX12_count 13 = .ok (.if_icmp .ne 10, 3) := by decide +kernel
theorem dX12_count_16 : decode cX12_count 16 = .ok (.aload_n 0, 1) := by decide +kernel
theorem dX12_count_17 : decode cX12_count 17 = .ok (.getfield 299, 3) := by decide +kernel
theorem dX12_count_20 : decode cX12_count 20 = .ok (.goto 52, 3) := by decide +kernel
theorem dX12_count_23 : decode cX12_count 23 = .ok (.iload_n 1, 1) := by decide +kernel
theorem dX12_count_24 : decode cX12_count 24 = .ok (.iconst 2, 1) := by decide +kernel
theorem dX12_count_25 : decode cX12_count 25 = .ok (.if_icmp .ne 10, 3) := by decide +kernel
theorem dX12_count_28 : decode cX12_count 28 = .ok (.aload_n 0, 1) := by decide +kernel
theorem dX12_count_29 : decode cX12_count 29 = .ok (.getfield 171, 3) := by decide +kernel
theorem dX12_count_32 : decode cX12_count 32 = .ok (.goto 40, 3) := by decide +kernel
theorem dX12_count_35 : decode cX12_count 35 = .ok (.iload_n 1, 1) := by decide +kernel
theorem dX12_count_36 : decode cX12_count 36 = .ok (.iconst 3, 1) := by decide +kernel
theorem dX12_count_37 : decode cX12_count 37 = .ok (.if_icmp .ne 10, 3) := by decide +kernel
theorem dX12_count_40 : decode cX12_count 40 = .ok (.aload_n 0, 1) := by decide +kernel
theorem dX12_count_41 : decode cX12_count 41 = .ok (.getfield 302, 3) := by decide +kernel
theorem dX12_count_44 : decode cX12_count 44 = .ok (.goto 28, 3) := by decide +kernel
theorem dX12_count_47 : decode cX12_count 47 = .ok (.iload_n 1, 1) := by decide +kernel
theorem dX12_count_48 : decode cX12_count 48 = .ok (.iconst 4, 1) := by decide +kernel
theorem dX12_count_49 : decode cX12_count 49 = .ok (.if_icmp .ne 10, 3) := by decide +kernel
theorem dX12_count_52 : decode cX12_count 52 = .ok (.aload_n 0, 1) := by decide +kernel
theorem dX12_count_53 : decode cX12_count 53 = .ok (.getfield 164, 3) := by decide +kernel
theorem dX12_count_56 : decode cX12_count 56 = .ok (.goto 16, 3) := by decide +kernel
theorem dX12_count_59 : decode cX12_count 59 = .ok (.iload_n 1, 1) := by decide +kernel
theorem dX12_count_60 : decode cX12_count 60 = .ok (.iconst 5, 1) := by decide +kernel
theorem dX12_count_61 : decode cX12_count 61 = .ok (.if_icmp .ne 10, 3) := by decide +kernel
theorem dX12_count_64 : decode cX12_count 64 = .ok (.aload_n 0, 1) := by decide +kernel
theorem dX12_count_65 : decode cX12_count 65 = .ok (.getfield 332, 3) := by decide +kernel
theorem dX12_count_68 : decode cX12_count 68 = .ok (.goto 4, 3) := by decide +kernel
theorem dX12_count_71 : decode cX12_count 71 = .ok (.iconst (-1), 1) := by decide +kernel
theorem dX12_count_72 : decode cX12_count 72 = .ok (.ireturn, 1) := by decide +kernel
theorem dX12_outcome_0 : decode cX12_outcome 0 = .ok (.iload_n 1, 1) := by decide +kernel
theorem dX12_outcome_1 : decode cX12_outcome 1 = .ok (.ifCond .lt 11, 3) := by decide +kernel
theorem dX12_outcome_4 : decode cX12_outcome 4 = .ok (.iload_n 1, 1) := by decide +kernel
theorem dX12_outcome_5 : decode cX12_outcome 5 = .ok (.aload_n 0, 1) := by decide +kernel
theorem dX12_outcome_6 : decode cX12_outcome 6 = .ok (.getfield 299, 3) := by decide +kernel
theorem dX12_outcome_9 : decode cX12_outcome 9 = .ok (.if_icmp .lt 7, 3) := by decide +kernel
theorem dX12_outcome_12 : decode cX12_outcome 12 = .ok (.iconst (-1), 1) := by decide +kernel
theorem dX12_outcome_13 : decode cX12_outcome 13 = .ok (.goto 9, 3) := by decide +kernel
theorem dX12_outcome_16 : decode cX12_outcome 16 = .ok (.aload_n 0, 1) := by decide +kernel
theorem dX12_outcome_17 : decode cX12_outcome 17 = .ok (.getfield 105, 3) := by decide +kernel
theorem dX12_outcome_20 : decode cX12_outcome 20 = .ok (.iload_n 1, 1) := by decide +kernel
theorem dX12_outcome_21 : decode cX12_outcome 21 = .ok (.iaload, 1) := by decide +kernel
theorem dX12_outcome_22 : decode cX12_outcome 22 = .ok (.ireturn, 1) := by decide +kernel
theorem dX12_told_0 : decode cX12_told 0 = .ok (.iload_n 1, 1) := by decide +kernel
theorem dX12_told_1 : decode cX12_told 1 = .ok (.ifCond .lt 11, 3) := by decide +kernel
theorem dX12_told_4 : decode cX12_told 4 = .ok (.iload_n 1, 1) := by decide +kernel
theorem dX12_told_5 : decode cX12_told 5 = .ok (.aload_n 0, 1) := by decide +kernel
theorem dX12_told_6 : decode cX12_told 6 = .ok (.getfield 286, 3) := by decide +kernel
theorem dX12_told_9 : decode cX12_told 9 = .ok (.if_icmp .lt 5, 3) := by decide +kernel
theorem dX12_told_12 : decode cX12_told 12 = .ok (.iconst (-1), 1) := by decide +kernel
theorem dX12_told_13 : decode cX12_told 13 = .ok (.ireturn, 1) := by decide +kernel
theorem dX12_told_14 : decode cX12_told 14 = .ok (.iload_n 2, 1) := by decide +kernel
theorem dX12_told_15 : decode cX12_told 15 = .ok (.ifCond .ne 12, 3) := by decide +kernel
theorem dX12_told_18 : decode cX12_told 18 = .ok (.aload_n 0, 1) := by decide +kernel
theorem dX12_told_19 : decode cX12_told 19 = .ok (.getfield 69, 3) := by decide +kernel
theorem dX12_told_22 : decode cX12_told 22 = .ok (.iload_n 1, 1) := by decide +kernel
theorem dX12_told_23 : decode cX12_told 23 = .ok (.iaload, 1) := by decide +kernel
theorem dX12_told_24 : decode cX12_told 24 = .ok (.goto 46, 3) := by decide +kernel
theorem dX12_told_27 : decode cX12_told 27 = .ok (.iload_n 2, 1) := by decide +kernel
theorem dX12_told_28 : decode cX12_told 28 = .ok (.iconst 1, 1) := by decide +kernel
theorem dX12_told_29 : decode cX12_told 29 = .ok (.if_icmp .ne 12, 3) := by decide +kernel
theorem dX12_told_32 : decode cX12_told 32 = .ok (.aload_n 0, 1) := by decide +kernel
theorem dX12_told_33 : decode cX12_told 33 = .ok (.getfield 72, 3) := by decide +kernel
theorem dX12_told_36 : decode cX12_told 36 = .ok (.iload_n 1, 1) := by decide +kernel
theorem dX12_told_37 : decode cX12_told 37 = .ok (.iaload, 1) := by decide +kernel
theorem dX12_told_38 : decode cX12_told 38 = .ok (.goto 32, 3) := by decide +kernel
theorem dX12_told_41 : decode cX12_told 41 = .ok (.iload_n 2, 1) := by decide +kernel
theorem dX12_told_42 : decode cX12_told 42 = .ok (.iconst 2, 1) := by decide +kernel
theorem dX12_told_43 : decode cX12_told 43 = .ok (.if_icmp .ne 12, 3) := by decide +kernel
theorem dX12_told_46 : decode cX12_told 46 = .ok (.aload_n 0, 1) := by decide +kernel
theorem dX12_told_47 : decode cX12_told 47 = .ok (.getfield 75, 3) := by decide +kernel
theorem dX12_told_50 : decode cX12_told 50 = .ok (.iload_n 1, 1) := by decide +kernel
theorem dX12_told_51 : decode cX12_told 51 = .ok (.iaload, 1) := by decide +kernel
theorem dX12_told_52 : decode cX12_told 52 = .ok (.goto 18, 3) := by decide +kernel
theorem dX12_told_55 : decode cX12_told 55 = .ok (.iload_n 2, 1) := by decide +kernel
theorem dX12_told_56 : decode cX12_told 56 = .ok (.iconst 3, 1) := by decide +kernel
theorem dX12_told_57 : decode cX12_told 57 = .ok (.if_icmp .ne 12, 3) := by decide +kernel
theorem dX12_told_60 : decode cX12_told 60 = .ok (.aload_n 0, 1) := by decide +kernel
theorem dX12_told_61 : decode cX12_told 61 = .ok (.getfield 78, 3) := by decide +kernel
theorem dX12_told_64 : decode cX12_told 64 = .ok (.iload_n 1, 1) := by decide +kernel
theorem dX12_told_65 : decode cX12_told 65 = .ok (.iaload, 1) := by decide +kernel
theorem dX12_told_66 : decode cX12_told 66 = .ok (.goto 4, 3) := by decide +kernel
theorem dX12_told_69 : decode cX12_told 69 = .ok (.iconst (-1), 1) := by decide +kernel
theorem dX12_told_70 : decode cX12_told 70 = .ok (.ireturn, 1) := by decide +kernel
theorem dX12_account_0 : decode cX12_account 0 = .ok (.iload_n 1, 1) := by decide +kernel
theorem dX12_account_1 : decode cX12_account 1 = .ok (.ifCond .lt 11, 3) := by decide +kernel
theorem dX12_account_4 : decode cX12_account 4 = .ok (.iload_n 1, 1) := by decide +kernel
theorem dX12_account_5 : decode cX12_account 5 = .ok (.aload_n 0, 1) := by decide +kernel
theorem dX12_account_6 : decode cX12_account 6 = .ok (.getfield 286, 3) := by decide +kernel
theorem dX12_account_9 : decode cX12_account 9 = .ok (.if_icmp .lt 7, 3) := by decide +kernel
theorem dX12_account_12 : decode cX12_account 12 = .ok (.lconst 0, 1) := by decide +kernel
theorem dX12_account_13 : decode cX12_account 13 = .ok (.goto 9, 3) := by decide +kernel
theorem dX12_account_16 : decode cX12_account 16 = .ok (.aload_n 0, 1) := by decide +kernel
theorem dX12_account_17 : decode cX12_account 17 = .ok (.getfield 63, 3) := by decide +kernel
theorem dX12_account_20 : decode cX12_account 20 = .ok (.iload_n 1, 1) := by decide +kernel
theorem dX12_account_21 : decode cX12_account 21 = .ok (.laload, 1) := by decide +kernel
theorem dX12_account_22 : decode cX12_account 22 = .ok (.lreturn, 1) := by decide +kernel
theorem dX12_debit__0 : decode cX12_debit_ 0 = .ok (.iload_n 1, 1) := by decide +kernel
theorem dX12_debit__1 : decode cX12_debit_ 1 = .ok (.ifCond .lt 21, 3) := by decide +kernel
theorem dX12_debit__4 : decode cX12_debit_ 4 = .ok (.iload_n 1, 1) := by decide +kernel
theorem dX12_debit__5 : decode cX12_debit_ 5 = .ok (.aload_n 0, 1) := by decide +kernel
theorem dX12_debit__6 : decode cX12_debit_ 6 = .ok (.getfield 302, 3) := by decide +kernel
theorem dX12_debit__9 : decode cX12_debit_ 9 = .ok (.if_icmp .ge 13, 3) := by decide +kernel
theorem dX12_debit__12 : decode cX12_debit_ 12 = .ok (.iload_n 2, 1) := by decide +kernel
theorem dX12_debit__13 : decode cX12_debit_ 13 = .ok (.ifCond .lt 9, 3) := by decide +kernel
theorem dX12_debit__16 : decode cX12_debit_ 16 = .ok (.iload_n 2, 1) := by decide +kernel
theorem dX12_debit__17 : decode cX12_debit_ 17 = .ok (.bipush 6, 2) := by decide +kernel
theorem dX12_debit__19 : decode cX12_debit_ 19 = .ok (.if_icmp .le 9, 3) := by decide +kernel
theorem dX12_debit__22 : decode cX12_debit_ 22 = .ok (.ldc2_w 347, 3) := by decide +kernel
theorem dX12_debit__25 : decode cX12_debit_ 25 = .ok (.goto 14, 3) := by decide +kernel
theorem dX12_debit__28 : decode cX12_debit_ 28 = .ok (.aload_n 0, 1) := by decide +kernel
theorem dX12_debit__29 : decode cX12_debit_ 29 = .ok (.getfield 157, 3) := by decide +kernel
theorem dX12_debit__32 : decode cX12_debit_ 32 = .ok (.bipush 7, 2) := by decide +kernel
theorem dX12_debit__34 : decode cX12_debit_ 34 = .ok (.iload_n 1, 1) := by decide +kernel
theorem dX12_debit__35 : decode cX12_debit_ 35 = .ok (.imul, 1) := by decide +kernel
theorem dX12_debit__36 : decode cX12_debit_ 36 = .ok (.iload_n 2, 1) := by decide +kernel
theorem dX12_debit__37 : decode cX12_debit_ 37 = .ok (.iadd, 1) := by decide +kernel
theorem dX12_debit__38 : decode cX12_debit_ 38 = .ok (.laload, 1) := by decide +kernel
theorem dX12_debit__39 : decode cX12_debit_ 39 = .ok (.lreturn, 1) := by decide +kernel
theorem dX12_message_0 : decode cX12_message 0 = .ok (.aload_n 0, 1) := by decide +kernel
theorem dX12_message_1 : decode cX12_message 1 = .ok (.iload_n 1, 1) := by decide +kernel
theorem dX12_message_2 : decode cX12_message 2 = .ok (.invokevirtual 191, 3) := by decide +kernel
theorem dX12_message_5 : decode cX12_message 5 = .ok (.ifCond .ne 5, 3) := by decide +kernel
theorem dX12_message_8 : decode cX12_message 8 = .ok (.iconst (-1), 1) := by decide +kernel
theorem dX12_message_9 : decode cX12_message 9 = .ok (.ireturn, 1) := by decide +kernel
theorem dX12_message_10 : decode cX12_message 10 = .ok (.iload_n 2, 1) := by decide +kernel
theorem dX12_message_11 : decode cX12_message 11 = .ok (.ifCond .ne 12, 3) := by decide +kernel
theorem dX12_message_14 : decode cX12_message 14 = .ok (.aload_n 0, 1) := by decide +kernel
theorem dX12_message_15 : decode cX12_message 15 = .ok (.getfield 24, 3) := by decide +kernel
theorem dX12_message_18 : decode cX12_message 18 = .ok (.iload_n 1, 1) := by decide +kernel
theorem dX12_message_19 : decode cX12_message 19 = .ok (.iaload, 1) := by decide +kernel
theorem dX12_message_20 : decode cX12_message 20 = .ok (.goto 60, 3) := by decide +kernel
theorem dX12_message_23 : decode cX12_message 23 = .ok (.iload_n 2, 1) := by decide +kernel
theorem dX12_message_24 : decode cX12_message 24 = .ok (.iconst 1, 1) := by decide +kernel
theorem dX12_message_25 : decode cX12_message 25 = .ok (.if_icmp .ne 12, 3) := by decide +kernel
theorem dX12_message_28 : decode cX12_message 28 = .ok (.aload_n 0, 1) := by decide +kernel
theorem dX12_message_29 : decode cX12_message 29 = .ok (.getfield 27, 3) := by decide +kernel
theorem dX12_message_32 : decode cX12_message 32 = .ok (.iload_n 1, 1) := by decide +kernel
theorem dX12_message_33 : decode cX12_message 33 = .ok (.iaload, 1) := by decide +kernel
theorem dX12_message_34 : decode cX12_message 34 = .ok (.goto 46, 3) := by decide +kernel
theorem dX12_message_37 : decode cX12_message 37 = .ok (.iload_n 2, 1) := by decide +kernel
theorem dX12_message_38 : decode cX12_message 38 = .ok (.iconst 2, 1) := by decide +kernel
theorem dX12_message_39 : decode cX12_message 39 = .ok (.if_icmp .ne 12, 3) := by decide +kernel
theorem dX12_message_42 : decode cX12_message 42 = .ok (.aload_n 0, 1) := by decide +kernel
theorem dX12_message_43 : decode cX12_message 43 = .ok (.getfield 30, 3) := by decide +kernel
theorem dX12_message_46 : decode cX12_message 46 = .ok (.iload_n 1, 1) := by decide +kernel
theorem dX12_message_47 : decode cX12_message 47 = .ok (.iaload, 1) := by decide +kernel
theorem dX12_message_48 : decode cX12_message 48 = .ok (.goto 32, 3) := by decide +kernel
theorem dX12_message_51 : decode cX12_message 51 = .ok (.iload_n 2, 1) := by decide +kernel
theorem dX12_message_52 : decode cX12_message 52 = .ok (.iconst 3, 1) := by decide +kernel
theorem dX12_message_53 : decode cX12_message 53 = .ok (.if_icmp .ne 12, 3) := by decide +kernel
theorem dX12_message_56 : decode cX12_message 56 = .ok (.aload_n 0, 1) := by decide +kernel
theorem dX12_message_57 : decode cX12_message 57 = .ok (.getfield 33, 3) := by decide +kernel
theorem dX12_message_60 : decode cX12_message 60 = .ok (.iload_n 1, 1) := by decide +kernel
theorem dX12_message_61 : decode cX12_message 61 = .ok (.iaload, 1) := by decide +kernel
theorem dX12_message_62 : decode cX12_message 62 = .ok (.goto 18, 3) := by decide +kernel
theorem dX12_message_65 : decode cX12_message 65 = .ok (.iload_n 2, 1) := by decide +kernel
theorem dX12_message_66 : decode cX12_message 66 = .ok (.iconst 4, 1) := by decide +kernel
theorem dX12_message_67 : decode cX12_message 67 = .ok (.if_icmp .ne 12, 3) := by decide +kernel
theorem dX12_message_70 : decode cX12_message 70 = .ok (.aload_n 0, 1) := by decide +kernel
theorem dX12_message_71 : decode cX12_message 71 = .ok (.getfield 36, 3) := by decide +kernel
theorem dX12_message_74 : decode cX12_message 74 = .ok (.iload_n 1, 1) := by decide +kernel
theorem dX12_message_75 : decode cX12_message 75 = .ok (.iaload, 1) := by decide +kernel
theorem dX12_message_76 : decode cX12_message 76 = .ok (.goto 4, 3) := by decide +kernel
theorem dX12_message_79 : decode cX12_message 79 = .ok (.iconst (-1), 1) := by decide +kernel
theorem dX12_message_80 : decode cX12_message 80 = .ok (.ireturn, 1) := by decide +kernel
theorem dX12_at_0 : decode cX12_at 0 = .ok (.aload_n 0, 1) := by decide +kernel
theorem dX12_at_1 : decode cX12_at 1 = .ok (.iload_n 1, 1) := by decide +kernel
theorem dX12_at_2 : decode cX12_at 2 = .ok (.invokevirtual 191, 3) := by decide +kernel
theorem dX12_at_5 : decode cX12_at 5 = .ok (.ifCond .eq 17, 3) := by decide +kernel
theorem dX12_at_8 : decode cX12_at 8 = .ok (.iload_n 2, 1) := by decide +kernel
theorem dX12_at_9 : decode cX12_at 9 = .ok (.ifCond .lt 13, 3) := by decide +kernel
theorem dX12_at_12 : decode cX12_at 12 = .ok (.iload_n 2, 1) := by decide +kernel
theorem dX12_at_13 : decode cX12_at 13 = .ok (.aload_n 0, 1) := by decide +kernel
theorem dX12_at_14 : decode cX12_at 14 = .ok (.getfield 36, 3) := by decide +kernel
theorem dX12_at_17 : decode cX12_at 17 = .ok (.iload_n 1, 1) := by decide +kernel
theorem dX12_at_18 : decode cX12_at 18 = .ok (.iaload, 1) := by decide +kernel
theorem dX12_at_19 : decode cX12_at 19 = .ok (.if_icmp .lt 7, 3) := by decide +kernel
theorem dX12_at_22 : decode cX12_at 22 = .ok (.iconst (-1), 1) := by decide +kernel
theorem dX12_at_23 : decode cX12_at 23 = .ok (.goto 14, 3) := by decide +kernel
theorem dX12_at_26 : decode cX12_at 26 = .ok (.aload_n 0, 1) := by decide +kernel
theorem dX12_at_27 : decode cX12_at 27 = .ok (.getfield 39, 3) := by decide +kernel
theorem dX12_at_30 : decode cX12_at 30 = .ok (.bipush 64, 2) := by decide +kernel
theorem dX12_at_32 : decode cX12_at 32 = .ok (.iload_n 1, 1) := by decide +kernel
theorem dX12_at_33 : decode cX12_at 33 = .ok (.imul, 1) := by decide +kernel
theorem dX12_at_34 : decode cX12_at 34 = .ok (.iload_n 2, 1) := by decide +kernel
theorem dX12_at_35 : decode cX12_at 35 = .ok (.iadd, 1) := by decide +kernel
theorem dX12_at_36 : decode cX12_at 36 = .ok (.iaload, 1) := by decide +kernel
theorem dX12_at_37 : decode cX12_at 37 = .ok (.ireturn, 1) := by decide +kernel
theorem dX12_matched_0 : decode cX12_matched 0 = .ok (.iconst 1, 1) := by decide +kernel
theorem dX12_matched_1 : decode cX12_matched 1 = .ok (.istore_n 1, 1) := by decide +kernel
theorem dX12_matched_2 : decode cX12_matched 2 = .ok (.iconst 0, 1) := by decide +kernel
theorem dX12_matched_3 : decode cX12_matched 3 = .ok (.istore_n 2, 1) := by decide +kernel
theorem dX12_matched_4 : decode cX12_matched 4 = .ok (.iload_n 2, 1) := by decide +kernel
theorem dX12_matched_5 : decode cX12_matched 5 = .ok (.aload_n 0, 1) := by decide +kernel
theorem dX12_matched_6 : decode cX12_matched 6 = .ok (.getfield 302, 3) := by decide +kernel
theorem dX12_matched_9 : decode cX12_matched 9 = .ok (.if_icmp .ge 297, 3) := by decide +kernel
theorem dX12_matched_12 : decode cX12_matched 12 = .ok (.iload_n 1, 1) := by decide +kernel
theorem dX12_matched_13 : decode cX12_matched 13 = .ok (.ifCond .eq 293, 3) := by decide +kernel
theorem dX12_matched_16 : decode cX12_matched 16 = .ok (.bipush 7, 2) := by decide +kernel
theorem dX12_matched_18 : decode cX12_matched 18 = .ok (.iload_n 2, 1) := by decide +kernel
theorem dX12_matched_19 : decode cX12_matched 19 = .ok (.imul, 1) := by decide +kernel
theorem dX12_matched_20 : decode cX12_matched 20 = .ok (.istore_n 3, 1) := by decide +kernel
theorem dX12_matched_21 : decode cX12_matched 21 = .ok (.iconst 0, 1) := by decide +kernel
theorem dX12_matched_22 : decode cX12_matched 22 = .ok (.istore 4, 2) := by decide +kernel
theorem dX12_matched_24 : decode cX12_matched 24 = .ok (.iconst 0, 1) := by decide +kernel
theorem dX12_matched_25 : decode cX12_matched 25 = .ok (.istore 5, 2) := by decide +kernel
theorem dX12_matched_27 : decode cX12_matched 27 = .ok (.iload 5, 2) := by decide +kernel
theorem dX12_matched_29 : decode cX12_matched 29 = .ok (.aload_n 0, 1) := by decide +kernel
theorem dX12_matched_30 : decode cX12_matched 30 = .ok (.getfield 332, 3) := by decide +kernel
theorem dX12_matched_33 : decode cX12_matched 33 = .ok (.if_icmp .ge 86, 3) := by decide +kernel
theorem dX12_matched_36 : decode cX12_matched 36 = .ok (.iload 4, 2) := by decide +kernel
theorem dX12_matched_38 : decode cX12_matched 38 = .ok (.aload_n 0, 1) := by decide +kernel
theorem dX12_matched_39 : decode cX12_matched 39 = .ok (.getfield 151, 3) := by decide +kernel
theorem dX12_matched_42 : decode cX12_matched 42 = .ok (.iconst 3, 1) := by decide +kernel
theorem dX12_matched_43 : decode cX12_matched 43 = .ok (.iload 5, 2) := by decide +kernel
theorem dX12_matched_45 : decode cX12_matched 45 = .ok (.imul, 1) := by decide +kernel
theorem dX12_matched_46 : decode cX12_matched 46 = .ok (.laload, 1) := by decide +kernel
theorem dX12_matched_47 : decode cX12_matched 47 = .ok (.aload_n 0, 1) := by decide +kernel
theorem dX12_matched_48 : decode cX12_matched 48 = .ok (.getfield 157, 3) := by decide +kernel
theorem dX12_matched_51 : decode cX12_matched 51 = .ok (.iload_n 3, 1) := by decide +kernel
theorem dX12_matched_52 : decode cX12_matched 52 = .ok (.iconst 4, 1) := by decide +kernel
theorem dX12_matched_53 : decode cX12_matched 53 = .ok (.iadd, 1) := by decide +kernel
theorem dX12_matched_54 : decode cX12_matched 54 = .ok (.laload, 1) := by decide +kernel
theorem dX12_matched_55 : decode cX12_matched 55 = .ok (.lcmp, 1) := by decide +kernel
theorem dX12_matched_56 : decode cX12_matched 56 = .ok (.ifCond .ne 53, 3) := by decide +kernel
theorem dX12_matched_59 : decode cX12_matched 59 = .ok (.aload_n 0, 1) := by decide +kernel
theorem dX12_matched_60 : decode cX12_matched 60 = .ok (.getfield 151, 3) := by decide +kernel
theorem dX12_matched_63 : decode cX12_matched 63 = .ok (.iconst 3, 1) := by decide +kernel
theorem dX12_matched_64 : decode cX12_matched 64 = .ok (.iload 5, 2) := by decide +kernel
theorem dX12_matched_66 : decode cX12_matched 66 = .ok (.imul, 1) := by decide +kernel
theorem dX12_matched_67 : decode cX12_matched 67 = .ok (.iconst 1, 1) := by decide +kernel
theorem dX12_matched_68 : decode cX12_matched 68 = .ok (.iadd, 1) := by decide +kernel
theorem dX12_matched_69 : decode cX12_matched 69 = .ok (.laload, 1) := by decide +kernel
theorem dX12_matched_70 : decode cX12_matched 70 = .ok (.aload_n 0, 1) := by decide +kernel
theorem dX12_matched_71 : decode cX12_matched 71 = .ok (.getfield 157, 3) := by decide +kernel
theorem dX12_matched_74 : decode cX12_matched 74 = .ok (.iload_n 3, 1) := by decide +kernel
theorem dX12_matched_75 : decode cX12_matched 75 = .ok (.iconst 2, 1) := by decide +kernel
theorem dX12_matched_76 : decode cX12_matched 76 = .ok (.iadd, 1) := by decide +kernel
theorem dX12_matched_77 : decode cX12_matched 77 = .ok (.laload, 1) := by decide +kernel
theorem dX12_matched_78 : decode cX12_matched 78 = .ok (.lcmp, 1) := by decide +kernel
theorem dX12_matched_79 : decode cX12_matched 79 = .ok (.ifCond .ne 30, 3) := by decide +kernel
theorem dX12_matched_82 : decode cX12_matched 82 = .ok (.aload_n 0, 1) := by decide +kernel
theorem dX12_matched_83 : decode cX12_matched 83 = .ok (.getfield 151, 3) := by decide +kernel
theorem dX12_matched_86 : decode cX12_matched 86 = .ok (.iconst 3, 1) := by decide +kernel
theorem dX12_matched_87 : decode cX12_matched 87 = .ok (.iload 5, 2) := by decide +kernel
theorem dX12_matched_89 : decode cX12_matched 89 = .ok (.imul, 1) := by decide +kernel
theorem dX12_matched_90 : decode cX12_matched 90 = .ok (.iconst 2, 1) := by decide +kernel
theorem dX12_matched_91 : decode cX12_matched 91 = .ok (.iadd, 1) := by decide +kernel
theorem dX12_matched_92 : decode cX12_matched 92 = .ok (.laload, 1) := by decide +kernel
theorem dX12_matched_93 : decode cX12_matched 93 = .ok (.aload_n 0, 1) := by decide +kernel
theorem dX12_matched_94 : decode cX12_matched 94 = .ok (.getfield 157, 3) := by decide +kernel
theorem dX12_matched_97 : decode cX12_matched 97 = .ok (.iload_n 3, 1) := by decide +kernel
theorem dX12_matched_98 : decode cX12_matched 98 = .ok (.iconst 3, 1) := by decide +kernel
theorem dX12_matched_99 : decode cX12_matched 99 = .ok (.iadd, 1) := by decide +kernel
theorem dX12_matched_100 : decode cX12_matched 100 = .ok (.laload, 1) := by decide +kernel
theorem dX12_matched_101 : decode cX12_matched 101 = .ok (.lcmp, 1) := by decide +kernel
theorem dX12_matched_102 : decode cX12_matched 102 = .ok (.ifCond .ne 7, 3) := by decide +kernel
theorem dX12_matched_105 : decode cX12_matched 105 = .ok (.iconst 1, 1) := by decide +kernel
theorem dX12_matched_106 : decode cX12_matched 106 = .ok (.goto 4, 3) := by decide +kernel
theorem dX12_matched_109 : decode cX12_matched 109 = .ok (.iconst 0, 1) := by decide +kernel
theorem dX12_matched_110 : decode cX12_matched 110 = .ok (.iadd, 1) := by decide +kernel
theorem dX12_matched_111 : decode cX12_matched 111 = .ok (.istore 4, 2) := by decide +kernel
theorem dX12_matched_113 : decode cX12_matched 113 = .ok (.iinc 5 1, 3) := by decide +kernel
theorem dX12_matched_116 : decode cX12_matched 116 = .ok (.goto (-89), 3) := by decide +kernel
theorem dX12_matched_119 : decode cX12_matched 119 = .ok (.iconst 0, 1) := by decide +kernel
theorem dX12_matched_120 : decode cX12_matched 120 = .ok (.istore 5, 2) := by decide +kernel
theorem dX12_matched_122 : decode cX12_matched 122 = .ok (.iconst 0, 1) := by decide +kernel
theorem dX12_matched_123 : decode cX12_matched 123 = .ok (.istore 6, 2) := by decide +kernel
theorem dX12_matched_125 : decode cX12_matched 125 = .ok (.iload 6, 2) := by decide +kernel
theorem dX12_matched_127 : decode cX12_matched 127 = .ok (.aload_n 0, 1) := by decide +kernel
theorem dX12_matched_128 : decode cX12_matched 128 = .ok (.getfield 252, 3) := by decide +kernel
theorem dX12_matched_131 : decode cX12_matched 131 = .ok (.if_icmp .ge 83, 3) := by decide +kernel
theorem dX12_matched_134 : decode cX12_matched 134 = .ok (.iconst 1, 1) := by decide +kernel
theorem dX12_matched_135 : decode cX12_matched 135 = .ok (.istore 7, 2) := by decide +kernel
theorem dX12_matched_137 : decode cX12_matched 137 = .ok (.iconst 0, 1) := by decide +kernel
theorem dX12_matched_138 : decode cX12_matched 138 = .ok (.istore 8, 2) := by decide +kernel
theorem dX12_matched_140 : decode cX12_matched 140 = .ok (.iload 8, 2) := by decide +kernel
theorem dX12_matched_142 : decode cX12_matched 142 = .ok (.bipush 7, 2) := by decide +kernel
theorem dX12_matched_144 : decode cX12_matched 144 = .ok (.if_icmp .ge 47, 3) := by decide +kernel
theorem dX12_matched_147 : decode cX12_matched 147 = .ok (.iload 7, 2) := by decide +kernel
theorem dX12_matched_149 : decode cX12_matched 149 = .ok (.ifCond .eq 33, 3) := by decide +kernel
theorem dX12_matched_152 : decode cX12_matched 152 = .ok (.aload_n 0, 1) := by decide +kernel
theorem dX12_matched_153 : decode cX12_matched 153 = .ok (.getfield 154, 3) := by decide +kernel
theorem dX12_matched_156 : decode cX12_matched 156 = .ok (.bipush 7, 2) := by decide +kernel
theorem dX12_matched_158 : decode cX12_matched 158 = .ok (.iload 6, 2) := by decide +kernel
theorem dX12_matched_160 : decode cX12_matched 160 = .ok (.imul, 1) := by decide +kernel
theorem dX12_matched_161 : decode cX12_matched 161 = .ok (.iload 8, 2) := by decide +kernel
theorem dX12_matched_163 : decode cX12_matched 163 = .ok (.iadd, 1) := by decide +kernel
theorem dX12_matched_164 : decode cX12_matched 164 = .ok (.laload, 1) := by decide +kernel
theorem dX12_matched_165 : decode cX12_matched 165 = .ok (.aload_n 0, 1) := by decide +kernel
theorem dX12_matched_166 : decode cX12_matched 166 = .ok (.getfield 157, 3) := by decide +kernel
theorem dX12_matched_169 : decode cX12_matched 169 = .ok (.iload_n 3, 1) := by decide +kernel
theorem dX12_matched_170 : decode cX12_matched 170 = .ok (.iload 8, 2) := by decide +kernel
theorem dX12_matched_172 : decode cX12_matched 172 = .ok (.iadd, 1) := by decide +kernel
theorem dX12_matched_173 : decode cX12_matched 173 = .ok (.laload, 1) := by decide +kernel
theorem dX12_matched_174 : decode cX12_matched 174 = .ok (.lcmp, 1) := by decide +kernel
theorem dX12_matched_175 : decode cX12_matched 175 = .ok (.ifCond .ne 7, 3) := by decide +kernel
theorem dX12_matched_178 : decode cX12_matched 178 = .ok (.iconst 1, 1) := by decide +kernel
theorem dX12_matched_179 : decode cX12_matched 179 = .ok (.goto 4, 3) := by decide +kernel
theorem dX12_matched_182 : decode cX12_matched 182 = .ok (.iconst 0, 1) := by decide +kernel
theorem dX12_matched_183 : decode cX12_matched 183 = .ok (.istore 7, 2) := by decide +kernel
theorem dX12_matched_185 : decode cX12_matched 185 = .ok (.iinc 8 1, 3) := by decide +kernel
theorem dX12_matched_188 : decode cX12_matched 188 = .ok (.goto (-48), 3) := by decide +kernel
theorem dX12_matched_191 : decode cX12_matched 191 = .ok (.iload 5, 2) := by decide +kernel
theorem dX12_matched_193 : decode cX12_matched 193 = .ok (.ifCond .ne 8, 3) := by decide +kernel
theorem dX12_matched_196 : decode cX12_matched 196 = .ok (.iload 7, 2) := by decide +kernel
theorem dX12_matched_198 : decode cX12_matched 198 = .ok (.ifCond .eq 7, 3) := by decide +kernel
theorem dX12_matched_201 : decode cX12_matched 201 = .ok (.iconst 1, 1) := by decide +kernel
theorem dX12_matched_202 : decode cX12_matched 202 = .ok (.goto 4, 3) := by decide +kernel
theorem dX12_matched_205 : decode cX12_matched 205 = .ok (.iconst 0, 1) := by decide +kernel
theorem dX12_matched_206 : decode cX12_matched 206 = .ok (.istore 5, 2) := by decide +kernel
theorem dX12_matched_208 : decode cX12_matched 208 = .ok (.iinc 6 1, 3) := by decide +kernel
theorem dX12_matched_211 : decode cX12_matched 211 = .ok (.goto (-86), 3) := by decide +kernel
theorem dX12_matched_214 : decode cX12_matched 214 = .ok (.iload 4, 2) := by decide +kernel
theorem dX12_matched_216 : decode cX12_matched 216 = .ok (.iconst 1, 1) := by decide +kernel
theorem dX12_matched_217 : decode cX12_matched 217 = .ok (.if_icmp .ne 12, 3) := by decide +kernel
theorem dX12_matched_220 : decode cX12_matched 220 = .ok (.iload 5, 2) := by decide +kernel
theorem dX12_matched_222 : decode cX12_matched 222 = .ok (.ifCond .eq 7, 3) := by decide +kernel
theorem dX12_matched_225 : decode cX12_matched 225 = .ok (.iconst 1, 1) := by decide +kernel
theorem dX12_matched_226 : decode cX12_matched 226 = .ok (.goto 4, 3) := by decide +kernel
theorem dX12_matched_229 : decode cX12_matched 229 = .ok (.iconst 0, 1) := by decide +kernel
theorem dX12_matched_230 : decode cX12_matched 230 = .ok (.istore_n 1, 1) := by decide +kernel
theorem dX12_matched_231 : decode cX12_matched 231 = .ok (.iconst 0, 1) := by decide +kernel
theorem dX12_matched_232 : decode cX12_matched 232 = .ok (.istore 6, 2) := by decide +kernel
theorem dX12_matched_234 : decode cX12_matched 234 = .ok (.iload 6, 2) := by decide +kernel
theorem dX12_matched_236 : decode cX12_matched 236 = .ok (.iload_n 2, 1) := by decide +kernel
theorem dX12_matched_237 : decode cX12_matched 237 = .ok (.if_icmp .ge 63, 3) := by decide +kernel
theorem dX12_matched_240 : decode cX12_matched 240 = .ok (.iload_n 1, 1) := by decide +kernel
theorem dX12_matched_241 : decode cX12_matched 241 = .ok (.ifCond .eq 51, 3) := by decide +kernel
theorem dX12_matched_244 : decode cX12_matched 244 = .ok (.aload_n 0, 1) := by decide +kernel
theorem dX12_matched_245 : decode cX12_matched 245 = .ok (.getfield 157, 3) := by decide +kernel
theorem dX12_matched_248 : decode cX12_matched 248 = .ok (.bipush 7, 2) := by decide +kernel
theorem dX12_matched_250 : decode cX12_matched 250 = .ok (.iload 6, 2) := by decide +kernel
theorem dX12_matched_252 : decode cX12_matched 252 = .ok (.imul, 1) := by decide +kernel
theorem dX12_matched_253 : decode cX12_matched 253 = .ok (.laload, 1) := by decide +kernel
theorem dX12_matched_254 : decode cX12_matched 254 = .ok (.aload_n 0, 1) := by decide +kernel
theorem dX12_matched_255 : decode cX12_matched 255 = .ok (.getfield 157, 3) := by decide +kernel
theorem dX12_matched_258 : decode cX12_matched 258 = .ok (.iload_n 3, 1) := by decide +kernel
theorem dX12_matched_259 : decode cX12_matched 259 = .ok (.laload, 1) := by decide +kernel
theorem dX12_matched_260 : decode cX12_matched 260 = .ok (.lcmp, 1) := by decide +kernel
theorem dX12_matched_261 : decode cX12_matched 261 = .ok (.ifCond .ne 27, 3) := by decide +kernel
theorem dX12_matched_264 : decode cX12_matched 264 = .ok (.aload_n 0, 1) := by decide +kernel
theorem dX12_matched_265 : decode cX12_matched 265 = .ok (.getfield 157, 3) := by decide +kernel
theorem dX12_matched_268 : decode cX12_matched 268 = .ok (.bipush 7, 2) := by decide +kernel
theorem dX12_matched_270 : decode cX12_matched 270 = .ok (.iload 6, 2) := by decide +kernel
theorem dX12_matched_272 : decode cX12_matched 272 = .ok (.imul, 1) := by decide +kernel
theorem dX12_matched_273 : decode cX12_matched 273 = .ok (.iconst 1, 1) := by decide +kernel
theorem dX12_matched_274 : decode cX12_matched 274 = .ok (.iadd, 1) := by decide +kernel
theorem dX12_matched_275 : decode cX12_matched 275 = .ok (.laload, 1) := by decide +kernel
theorem dX12_matched_276 : decode cX12_matched 276 = .ok (.aload_n 0, 1) := by decide +kernel
theorem dX12_matched_277 : decode cX12_matched 277 = .ok (.getfield 157, 3) := by decide +kernel
theorem dX12_matched_280 : decode cX12_matched 280 = .ok (.iload_n 3, 1) := by decide +kernel
theorem dX12_matched_281 : decode cX12_matched 281 = .ok (.iconst 1, 1) := by decide +kernel
theorem dX12_matched_282 : decode cX12_matched 282 = .ok (.iadd, 1) := by decide +kernel
theorem dX12_matched_283 : decode cX12_matched 283 = .ok (.laload, 1) := by decide +kernel
theorem dX12_matched_284 : decode cX12_matched 284 = .ok (.lcmp, 1) := by decide +kernel
theorem dX12_matched_285 : decode cX12_matched 285 = .ok (.ifCond .eq 7, 3) := by decide +kernel
theorem dX12_matched_288 : decode cX12_matched 288 = .ok (.iconst 1, 1) := by decide +kernel
theorem dX12_matched_289 : decode cX12_matched 289 = .ok (.goto 4, 3) := by decide +kernel
theorem dX12_matched_292 : decode cX12_matched 292 = .ok (.iconst 0, 1) := by decide +kernel
theorem dX12_matched_293 : decode cX12_matched 293 = .ok (.istore_n 1, 1) := by decide +kernel
theorem dX12_matched_294 : decode cX12_matched 294 = .ok (.iinc 6 1, 3) := by decide +kernel
theorem dX12_matched_297 : decode cX12_matched 297 = .ok (.goto (-63), 3) := by decide +kernel
theorem dX12_matched_300 : decode cX12_matched 300 = .ok (.iinc 2 1, 3) := by decide +kernel
theorem dX12_matched_303 : decode cX12_matched 303 = .ok (.goto (-299), 3) := by decide +kernel
theorem dX12_matched_306 : decode cX12_matched 306 = .ok (.iload_n 1, 1) := by decide +kernel
theorem dX12_matched_307 : decode cX12_matched 307 = .ok (.ireturn, 1) := by decide +kernel
theorem dJ9_max_7cf53_0 : decode cJ9_max_7cf53 0 = .ok (.iload_n 0, 1) := by decide +kernel
theorem dJ9_max_7cf53_1 : decode cJ9_max_7cf53 1 = .ok (.iload_n 1, 1) := by decide +kernel
theorem dJ9_max_7cf53_2 : decode cJ9_max_7cf53 2 = .ok (.if_icmp .lt 7, 3) := by decide +kernel
theorem dJ9_max_7cf53_5 : decode cJ9_max_7cf53 5 = .ok (.iload_n 0, 1) := by decide +kernel
theorem dJ9_max_7cf53_6 : decode cJ9_max_7cf53 6 = .ok (.goto 4, 3) := by decide +kernel
theorem dJ9_max_7cf53_9 : decode cJ9_max_7cf53 9 = .ok (.iload_n 1, 1) := by decide +kernel
theorem dJ9_max_7cf53_10 : decode cJ9_max_7cf53 10 = .ok (.ireturn, 1) := by decide +kernel
theorem dJ9_min_7cf53_0 : decode cJ9_min_7cf53 0 = .ok (.iload_n 0, 1) := by decide +kernel
theorem dJ9_min_7cf53_1 : decode cJ9_min_7cf53 1 = .ok (.iload_n 1, 1) := by decide +kernel
theorem dJ9_min_7cf53_2 : decode cJ9_min_7cf53 2 = .ok (.if_icmp .gt 7, 3) := by decide +kernel
theorem dJ9_min_7cf53_5 : decode cJ9_min_7cf53 5 = .ok (.iload_n 0, 1) := by decide +kernel
theorem dJ9_min_7cf53_6 : decode cJ9_min_7cf53 6 = .ok (.goto 4, 3) := by decide +kernel
theorem dJ9_min_7cf53_9 : decode cJ9_min_7cf53 9 = .ok (.iload_n 1, 1) := by decide +kernel
theorem dJ9_min_7cf53_10 : decode cJ9_min_7cf53 10 = .ok (.ireturn, 1) := by decide +kernel
end
section
theorem dJxa1e45_init_da8c8_0 : decode cJxa1e45_init_da8c8 0 = .ok (.aload_n 0, 1) := by decide +kernel
theorem dJxa1e45_init_da8c8_1 : decode cJxa1e45_init_da8c8 1 = .ok (.invokespecial 1, 3) := by decide +kernel
theorem dJxa1e45_init_da8c8_4 : decode cJxa1e45_init_da8c8 4 = .ok (.return_, 1) := by decide +kernel
theorem dJxc12de_init_da8c8_0 : decode cJxc12de_init_da8c8 0 = .ok (.aload_n 0, 1) := by decide +kernel
theorem dJxc12de_init_da8c8_1 : decode cJxc12de_init_da8c8 1 = .ok (.invokespecial 1, 3) := by decide +kernel
theorem dJxc12de_init_da8c8_4 : decode cJxc12de_init_da8c8 4 = .ok (.aload_n 0, 1) := by decide +kernel
theorem dJxc12de_init_da8c8_5 : decode cJxc12de_init_da8c8 5 = .ok (.iconst 0, 1) := by decide +kernel
theorem dJxc12de_init_da8c8_6 : decode cJxc12de_init_da8c8 6 = .ok (.putfield 7, 3) := by decide +kernel
theorem dJxc12de_init_da8c8_9 : decode cJxc12de_init_da8c8 9 = .ok (.return_, 1) := by decide +kernel
theorem dJx4a65c_init_da8c8_0 : decode cJx4a65c_init_da8c8 0 = .ok (.aload_n 0, 1) := by decide +kernel
theorem dJx4a65c_init_da8c8_1 : decode cJx4a65c_init_da8c8 1 = .ok (.invokespecial 1, 3) := by decide +kernel
theorem dJx4a65c_init_da8c8_4 : decode cJx4a65c_init_da8c8 4 = .ok (.aload_n 0, 1) := by decide +kernel
theorem dJx4a65c_init_da8c8_5 : decode cJx4a65c_init_da8c8 5 = .ok (.getstatic 39, 3) := by decide +kernel
theorem dJx4a65c_init_da8c8_8 : decode cJx4a65c_init_da8c8 8 = .ok (.putfield 9, 3) := by decide +kernel
theorem dJx4a65c_init_da8c8_11 : decode cJx4a65c_init_da8c8 11 = .ok (.return_, 1) := by decide +kernel
theorem dJx4a65c_grow_92f84_0 : decode cJx4a65c_grow_92f84 0 = .ok (.aload_n 0, 1) := by decide +kernel
theorem dJx4a65c_grow_92f84_1 : decode cJx4a65c_grow_92f84 1 = .ok (.getfield 9, 3) := by decide +kernel
theorem dJx4a65c_grow_92f84_4 : decode cJx4a65c_grow_92f84 4 = .ok (.arraylength, 1) := by decide +kernel
theorem dJx4a65c_grow_92f84_5 : decode cJx4a65c_grow_92f84 5 = .ok (.istore_n 2, 1) := by decide +kernel
theorem dJx4a65c_grow_92f84_6 : decode cJx4a65c_grow_92f84 6 = .ok (.iload_n 2, 1) := by decide +kernel
theorem dJx4a65c_grow_92f84_7 : decode cJx4a65c_grow_92f84 7 = .ok (.ifCond .gt 13, 3) := by decide +kernel
theorem dJx4a65c_grow_92f84_10 : decode cJx4a65c_grow_92f84 10 = .ok (.aload_n 0, 1) := by decide +kernel
theorem dJx4a65c_grow_92f84_11 : decode cJx4a65c_grow_92f84 11 = .ok (.getfield 9, 3) := by decide +kernel
theorem dJx4a65c_grow_92f84_14 : decode cJx4a65c_grow_92f84 14 = .ok (.getstatic 39, 3) := by decide +kernel
theorem dJx4a65c_grow_92f84_17 : decode cJx4a65c_grow_92f84 17 = .ok (.if_acmp .eq 28, 3) := by decide +kernel
theorem dJx4a65c_grow_92f84_20 : decode cJx4a65c_grow_92f84 20 = .ok (.iload_n 2, 1) := by decide +kernel
theorem dJx4a65c_grow_92f84_21 : decode cJx4a65c_grow_92f84 21 = .ok (.iload_n 1, 1) := by decide +kernel
theorem dJx4a65c_grow_92f84_22 : decode cJx4a65c_grow_92f84 22 = .ok (.iload_n 2, 1) := by decide +kernel
theorem dJx4a65c_grow_92f84_23 : decode cJx4a65c_grow_92f84 23 = .ok (.isub, 1) := by decide +kernel
theorem dJx4a65c_grow_92f84_24 : decode cJx4a65c_grow_92f84 24 = .ok (.iload_n 2, 1) := by decide +kernel
theorem dJx4a65c_grow_92f84_25 : decode cJx4a65c_grow_92f84 25 = .ok (.iconst 1, 1) := by decide +kernel
theorem dJx4a65c_grow_92f84_26 : decode cJx4a65c_grow_92f84 26 = .ok (.ishr, 1) := by decide +kernel
theorem dJx4a65c_grow_92f84_27 : decode cJx4a65c_grow_92f84 27 = .ok (.invokestatic 73, 3) := by decide +kernel
theorem dJx4a65c_grow_92f84_30 : decode cJx4a65c_grow_92f84 30 = .ok (.istore_n 3, 1) := by decide +kernel
theorem dJx4a65c_grow_92f84_31 : decode cJx4a65c_grow_92f84 31 = .ok (.aload_n 0, 1) := by decide +kernel
theorem dJx4a65c_grow_92f84_32 : decode cJx4a65c_grow_92f84 32 = .ok (.aload_n 0, 1) := by decide +kernel
theorem dJx4a65c_grow_92f84_33 : decode cJx4a65c_grow_92f84 33 = .ok (.getfield 9, 3) := by decide +kernel
theorem dJx4a65c_grow_92f84_36 : decode cJx4a65c_grow_92f84 36 = .ok (.iload_n 3, 1) := by decide +kernel
theorem dJx4a65c_grow_92f84_37 : decode cJx4a65c_grow_92f84 37 = .ok (.invokestatic 66, 3) := by decide +kernel
theorem dJx4a65c_grow_92f84_40 : decode cJx4a65c_grow_92f84 40 = .ok (.dup_x1, 1) := by decide +kernel
theorem dJx4a65c_grow_92f84_41 : decode cJx4a65c_grow_92f84 41 = .ok (.putfield 9, 3) := by decide +kernel
theorem dJx4a65c_grow_92f84_44 : decode cJx4a65c_grow_92f84 44 = .ok (.areturn, 1) := by decide +kernel
theorem dJx4a65c_grow_92f84_45 : decode cJx4a65c_grow_92f84 45 = .ok (.aload_n 0, 1) := by decide +kernel
theorem dJx4a65c_grow_92f84_46 : decode cJx4a65c_grow_92f84 46 = .ok (.bipush 10, 2) := by decide +kernel
theorem dJx4a65c_grow_92f84_48 : decode cJx4a65c_grow_92f84 48 = .ok (.iload_n 1, 1) := by decide +kernel
theorem dJx4a65c_grow_92f84_49 : decode cJx4a65c_grow_92f84 49 = .ok (.invokestatic 79, 3) := by decide +kernel
theorem dJx4a65c_grow_92f84_52 : decode cJx4a65c_grow_92f84 52 = .ok (.anewarray 7, 3) := by decide +kernel
theorem dJx4a65c_grow_92f84_55 : decode cJx4a65c_grow_92f84 55 = .ok (.dup_x1, 1) := by decide +kernel
theorem dJx4a65c_grow_92f84_56 : decode cJx4a65c_grow_92f84 56 = .ok (.putfield 9, 3) := by decide +kernel
theorem dJx4a65c_grow_92f84_59 : decode cJx4a65c_grow_92f84 59 = .ok (.areturn, 1) := by decide +kernel
theorem dJx4a65c_grow_d5877_0 : decode cJx4a65c_grow_d5877 0 = .ok (.aload_n 0, 1) := by decide +kernel
theorem dJx4a65c_grow_d5877_1 : decode cJx4a65c_grow_d5877 1 = .ok (.aload_n 0, 1) := by decide +kernel
theorem dJx4a65c_grow_d5877_2 : decode cJx4a65c_grow_d5877 2 = .ok (.getfield 48, 3) := by decide +kernel
theorem dJx4a65c_grow_d5877_5 : decode cJx4a65c_grow_d5877 5 = .ok (.iconst 1, 1) := by decide +kernel
theorem dJx4a65c_grow_d5877_6 : decode cJx4a65c_grow_d5877 6 = .ok (.iadd, 1) := by decide +kernel
theorem dJx4a65c_grow_d5877_7 : decode cJx4a65c_grow_d5877 7 = .ok (.invokevirtual 69, 3) := by decide +kernel
theorem dJx4a65c_grow_d5877_10 : decode cJx4a65c_grow_d5877 10 = .ok (.areturn, 1) := by decide +kernel
theorem dJx4a65c_size_8abf5_0 : decode cJx4a65c_size_8abf5 0 = .ok (.aload_n 0, 1) := by decide +kernel
theorem dJx4a65c_size_8abf5_1 : decode cJx4a65c_size_8abf5 1 = .ok (.getfield 48, 3) := by decide +kernel
theorem dJx4a65c_size_8abf5_4 : decode cJx4a65c_size_8abf5 4 = .ok (.ireturn, 1) := by decide +kernel
theorem dJx4a65c_elementData_915e3_0 : decode cJx4a65c_elementData_915e3 0 = .ok (.aload_n 0, 1) := by decide +kernel
theorem dJx4a65c_elementData_915e3_1 : decode cJx4a65c_elementData_915e3 1 = .ok (.getfield 9, 3) := by decide +kernel
theorem dJx4a65c_elementData_915e3_4 : decode cJx4a65c_elementData_915e3 4 = .ok (.iload_n 1, 1) := by decide +kernel
theorem dJx4a65c_elementData_915e3_5 : decode cJx4a65c_elementData_915e3 5 = .ok (.aaload, 1) := by decide +kernel
theorem dJx4a65c_elementData_915e3_6 : decode cJx4a65c_elementData_915e3 6 = .ok (.areturn, 1) := by decide +kernel
theorem dJx4a65c_get_915e3_0 : decode cJx4a65c_get_915e3 0 = .ok (.iload_n 1, 1) := by decide +kernel
theorem dJx4a65c_get_915e3_1 : decode cJx4a65c_get_915e3 1 = .ok (.aload_n 0, 1) := by decide +kernel
theorem dJx4a65c_get_915e3_2 : decode cJx4a65c_get_915e3 2 = .ok (.getfield 48, 3) := by decide +kernel
theorem dJx4a65c_get_915e3_5 : decode cJx4a65c_get_915e3 5 = .ok (.invokestatic 118, 3) := by decide +kernel
theorem dJx4a65c_get_915e3_8 : decode cJx4a65c_get_915e3 8 = .ok (.pop, 1) := by decide +kernel
theorem dJx4a65c_get_915e3_9 : decode cJx4a65c_get_915e3 9 = .ok (.aload_n 0, 1) := by decide +kernel
theorem dJx4a65c_get_915e3_10 : decode cJx4a65c_get_915e3 10 = .ok (.iload_n 1, 1) := by decide +kernel
theorem dJx4a65c_get_915e3_11 : decode cJx4a65c_get_915e3 11 = .ok (.invokevirtual 123, 3) := by decide +kernel
theorem dJx4a65c_get_915e3_14 : decode cJx4a65c_get_915e3 14 = .ok (.areturn, 1) := by decide +kernel
theorem dJx4a65c_add_72be8_0 : decode cJx4a65c_add_72be8 0 = .ok (.iload_n 3, 1) := by decide +kernel
theorem dJx4a65c_add_72be8_1 : decode cJx4a65c_add_72be8 1 = .ok (.aload_n 2, 1) := by decide +kernel
theorem dJx4a65c_add_72be8_2 : decode cJx4a65c_add_72be8 2 = .ok (.arraylength, 1) := by decide +kernel
theorem dJx4a65c_add_72be8_3 : decode cJx4a65c_add_72be8 3 = .ok (.if_icmp .ne 8, 3) := by decide +kernel
theorem dJx4a65c_add_72be8_6 : decode cJx4a65c_add_72be8 6 = .ok (.aload_n 0, 1) := by decide +kernel
theorem dJx4a65c_add_72be8_7 : decode cJx4a65c_add_72be8 7 = .ok (.invokevirtual 129, 3) := by decide +kernel
theorem dJx4a65c_add_72be8_10 : decode cJx4a65c_add_72be8 10 = .ok (.astore_n 2, 1) := by decide +kernel
theorem dJx4a65c_add_72be8_11 : decode cJx4a65c_add_72be8 11 = .ok (.aload_n 2, 1) := by decide +kernel
theorem dJx4a65c_add_72be8_12 : decode cJx4a65c_add_72be8 12 = .ok (.iload_n 3, 1) := by decide +kernel
theorem dJx4a65c_add_72be8_13 : decode cJx4a65c_add_72be8 13 = .ok (.aload_n 1, 1) := by decide +kernel
theorem dJx4a65c_add_72be8_14 : decode cJx4a65c_add_72be8 14 = .ok (.aastore, 1) := by decide +kernel
theorem dJx4a65c_add_72be8_15 : decode cJx4a65c_add_72be8 15 = .ok (.aload_n 0, 1) := by decide +kernel
theorem dJx4a65c_add_72be8_16 : decode cJx4a65c_add_72be8 16 = .ok (.iload_n 3, 1) := by decide +kernel
theorem dJx4a65c_add_72be8_17 : decode cJx4a65c_add_72be8 17 = .ok (.iconst 1, 1) := by decide +kernel
theorem dJx4a65c_add_72be8_18 : decode cJx4a65c_add_72be8 18 = .ok (.iadd, 1) := by decide +kernel
theorem dJx4a65c_add_72be8_19 : decode cJx4a65c_add_72be8 19 = .ok (.putfield 48, 3) := by decide +kernel
theorem dJx4a65c_add_72be8_22 : decode cJx4a65c_add_72be8 22 = .ok (.return_, 1) := by decide +kernel
theorem dJx4a65c_add_9ea2d_0 : decode cJx4a65c_add_9ea2d 0 = .ok (.aload_n 0, 1) := by decide +kernel
theorem dJx4a65c_add_9ea2d_1 : decode cJx4a65c_add_9ea2d 1 = .ok (.dup, 1) := by decide +kernel
theorem dJx4a65c_add_9ea2d_2 : decode cJx4a65c_add_9ea2d 2 = .ok (.getfield 63, 3) := by decide +kernel
theorem dJx4a65c_add_9ea2d_5 : decode cJx4a65c_add_9ea2d 5 = .ok (.iconst 1, 1) := by decide +kernel
theorem dJx4a65c_add_9ea2d_6 : decode cJx4a65c_add_9ea2d 6 = .ok (.iadd, 1) := by decide +kernel
theorem dJx4a65c_add_9ea2d_7 : decode cJx4a65c_add_9ea2d 7 = .ok (.putfield 63, 3) := by decide +kernel
theorem dJx4a65c_add_9ea2d_10 : decode cJx4a65c_add_9ea2d 10 = .ok (.aload_n 0, 1) := by decide +kernel
theorem dJx4a65c_add_9ea2d_11 : decode cJx4a65c_add_9ea2d 11 = .ok (.aload_n 1, 1) := by decide +kernel
theorem dJx4a65c_add_9ea2d_12 : decode cJx4a65c_add_9ea2d 12 = .ok (.aload_n 0, 1) := by decide +kernel
theorem dJx4a65c_add_9ea2d_13 : decode cJx4a65c_add_9ea2d 13 = .ok (.getfield 9, 3) := by decide +kernel
theorem dJx4a65c_add_9ea2d_16 : decode cJx4a65c_add_9ea2d 16 = .ok (.aload_n 0, 1) := by decide +kernel
theorem dJx4a65c_add_9ea2d_17 : decode cJx4a65c_add_9ea2d 17 = .ok (.getfield 48, 3) := by decide +kernel
theorem dJx4a65c_add_9ea2d_20 : decode cJx4a65c_add_9ea2d 20 = .ok (.invokevirtual 131, 3) := by decide +kernel
theorem dJx4a65c_add_9ea2d_23 : decode cJx4a65c_add_9ea2d 23 = .ok (.iconst 1, 1) := by decide +kernel
theorem dJx4a65c_add_9ea2d_24 : decode cJx4a65c_add_9ea2d 24 = .ok (.ireturn, 1) := by decide +kernel
theorem dJx4a65c_clear_da8c8_0 : decode cJx4a65c_clear_da8c8 0 = .ok (.aload_n 0, 1) := by decide +kernel
theorem dJx4a65c_clear_da8c8_1 : decode cJx4a65c_clear_da8c8 1 = .ok (.dup, 1) := by decide +kernel
theorem dJx4a65c_clear_da8c8_2 : decode cJx4a65c_clear_da8c8 2 = .ok (.getfield 63, 3) := by decide +kernel
theorem dJx4a65c_clear_da8c8_5 : decode cJx4a65c_clear_da8c8 5 = .ok (.iconst 1, 1) := by decide +kernel
theorem dJx4a65c_clear_da8c8_6 : decode cJx4a65c_clear_da8c8 6 = .ok (.iadd, 1) := by decide +kernel
theorem dJx4a65c_clear_da8c8_7 : decode cJx4a65c_clear_da8c8 7 = .ok (.putfield 63, 3) := by decide +kernel
theorem dJx4a65c_clear_da8c8_10 : decode cJx4a65c_clear_da8c8 10 = .ok (.aload_n 0, 1) := by decide +kernel
theorem dJx4a65c_clear_da8c8_11 : decode cJx4a65c_clear_da8c8 11 = .ok (.getfield 9, 3) := by decide +kernel
theorem dJx4a65c_clear_da8c8_14 : decode cJx4a65c_clear_da8c8 14 = .ok (.astore_n 1, 1) := by decide +kernel
theorem dJx4a65c_clear_da8c8_15 : decode cJx4a65c_clear_da8c8 15 = .ok (.aload_n 0, 1) := by decide +kernel
theorem dJx4a65c_clear_da8c8_16 : decode cJx4a65c_clear_da8c8 16 = .ok (.getfield 48, 3) := by decide +kernel
theorem dJx4a65c_clear_da8c8_19 : decode cJx4a65c_clear_da8c8 19 = .ok (.istore_n 2, 1) := by decide +kernel
theorem dJx4a65c_clear_da8c8_20 : decode cJx4a65c_clear_da8c8 20 = .ok (.aload_n 0, 1) := by decide +kernel
theorem dJx4a65c_clear_da8c8_21 : decode cJx4a65c_clear_da8c8 21 = .ok (.iconst 0, 1) := by decide +kernel
theorem dJx4a65c_clear_da8c8_22 : decode cJx4a65c_clear_da8c8 22 = .ok (.dup_x1, 1) := by decide +kernel
theorem dJx4a65c_clear_da8c8_23 : decode cJx4a65c_clear_da8c8 23 = .ok (.putfield 48, 3) := by decide +kernel
theorem dJx4a65c_clear_da8c8_26 : decode cJx4a65c_clear_da8c8 26 = .ok (.istore_n 3, 1) := by decide +kernel
theorem dJx4a65c_clear_da8c8_27 : decode cJx4a65c_clear_da8c8 27 = .ok (.iload_n 3, 1) := by decide +kernel
theorem dJx4a65c_clear_da8c8_28 : decode cJx4a65c_clear_da8c8 28 = .ok (.iload_n 2, 1) := by decide +kernel
theorem dJx4a65c_clear_da8c8_29 : decode cJx4a65c_clear_da8c8 29 = .ok (.if_icmp .ge 13, 3) := by decide +kernel
theorem dJx4a65c_clear_da8c8_32 : decode cJx4a65c_clear_da8c8 32 = .ok (.aload_n 1, 1) := by decide +kernel
theorem dJx4a65c_clear_da8c8_33 : decode cJx4a65c_clear_da8c8 33 = .ok (.iload_n 3, 1) := by decide +kernel
theorem dJx4a65c_clear_da8c8_34 : decode cJx4a65c_clear_da8c8 34 = .ok (.aconst_null, 1) := by decide +kernel
theorem dJx4a65c_clear_da8c8_35 : decode cJx4a65c_clear_da8c8 35 = .ok (.aastore, 1) := by decide +kernel
theorem dJx4a65c_clear_da8c8_36 : decode cJx4a65c_clear_da8c8 36 = .ok (.iinc 3 1, 3) := by decide +kernel
theorem dJx4a65c_clear_da8c8_39 : decode cJx4a65c_clear_da8c8 39 = .ok (.goto (-12), 3) := by decide +kernel
theorem dJx4a65c_clear_da8c8_42 : decode cJx4a65c_clear_da8c8 42 = .ok (.return_, 1) := by decide +kernel
theorem dJ7_copyOf_1904c_0 : decode cJ7_copyOf_1904c 0 = .ok (.aload_n 0, 1) := by decide +kernel
theorem dJ7_copyOf_1904c_1 : decode cJ7_copyOf_1904c 1 = .ok (.iload_n 1, 1) := by decide +kernel
theorem dJ7_copyOf_1904c_2 : decode cJ7_copyOf_1904c 2 = .ok (.aload_n 0, 1) := by decide +kernel
theorem dJ7_copyOf_1904c_3 : decode cJ7_copyOf_1904c 3 = .ok (.invokevirtual 86, 3) := by decide +kernel
theorem dJ7_copyOf_1904c_6 : decode cJ7_copyOf_1904c 6 = .ok (.invokestatic 300, 3) := by decide +kernel
theorem dJ7_copyOf_1904c_9 : decode cJ7_copyOf_1904c 9 = .ok (.areturn, 1) := by decide +kernel
theorem dJ7_copyOf_6403c_0 : decode cJ7_copyOf_6403c 0 = .ok (.aload_n 2, 1) := by decide +kernel
theorem dJ7_copyOf_6403c_1 : decode cJ7_copyOf_6403c 1 = .ok (.ldc 110, 2) := by decide +kernel
theorem dJ7_copyOf_6403c_3 : decode cJ7_copyOf_6403c 3 = .ok (.if_acmp .ne 10, 3) := by decide +kernel
theorem dJ7_copyOf_6403c_6 : decode cJ7_copyOf_6403c 6 = .ok (.iload_n 1, 1) := by decide +kernel
theorem dJ7_copyOf_6403c_7 : decode cJ7_copyOf_6403c 7 = .ok (.anewarray 2, 3) := by decide +kernel
theorem dJ7_copyOf_6403c_10 : decode cJ7_copyOf_6403c 10 = .ok (.goto 14, 3) := by decide +kernel
theorem dJ7_copyOf_6403c_13 : decode cJ7_copyOf_6403c 13 = .ok (.aload_n 2, 1) := by decide +kernel
theorem dJ7_copyOf_6403c_14 : decode cJ7_copyOf_6403c 14 = .ok (.invokevirtual 90, 3) := by decide +kernel
theorem dJ7_copyOf_6403c_17 : decode cJ7_copyOf_6403c 17 = .ok (.iload_n 1, 1) := by decide +kernel
theorem dJ7_copyOf_6403c_18 : decode cJ7_copyOf_6403c 18 = .ok (.invokestatic 95, 3) := by decide +kernel
theorem dJ7_copyOf_6403c_21 : decode cJ7_copyOf_6403c 21 = .ok (.checkcast 110, 3) := by decide +kernel
theorem dJ7_copyOf_6403c_24 : decode cJ7_copyOf_6403c 24 = .ok (.astore_n 3, 1) := by decide +kernel
theorem dJ7_copyOf_6403c_25 : decode cJ7_copyOf_6403c 25 = .ok (.aload_n 0, 1) := by decide +kernel
theorem dJ7_copyOf_6403c_26 : decode cJ7_copyOf_6403c 26 = .ok (.iconst 0, 1) := by decide +kernel
theorem dJ7_copyOf_6403c_27 : decode cJ7_copyOf_6403c 27 = .ok (.aload_n 3, 1) := by decide +kernel
theorem dJ7_copyOf_6403c_28 : decode cJ7_copyOf_6403c 28 = .ok (.iconst 0, 1) := by decide +kernel
theorem dJ7_copyOf_6403c_29 : decode cJ7_copyOf_6403c 29 = .ok (.aload_n 0, 1) := by decide +kernel
theorem dJ7_copyOf_6403c_30 : decode cJ7_copyOf_6403c 30 = .ok (.arraylength, 1) := by decide +kernel
theorem dJ7_copyOf_6403c_31 : decode cJ7_copyOf_6403c 31 = .ok (.iload_n 1, 1) := by decide +kernel
theorem dJ7_copyOf_6403c_32 : decode cJ7_copyOf_6403c 32 = .ok (.invokestatic 304, 3) := by decide +kernel
theorem dJ7_copyOf_6403c_35 : decode cJ7_copyOf_6403c 35 = .ok (.invokestatic 150, 3) := by decide +kernel
theorem dJ7_copyOf_6403c_38 : decode cJ7_copyOf_6403c 38 = .ok (.aload_n 3, 1) := by decide +kernel
theorem dJ7_copyOf_6403c_39 : decode cJ7_copyOf_6403c 39 = .ok (.areturn, 1) := by decide +kernel
theorem dJ7_copyOf_c38d5_0 : decode cJ7_copyOf_c38d5 0 = .ok (.iload_n 1, 1) := by decide +kernel
theorem dJ7_copyOf_c38d5_1 : decode cJ7_copyOf_c38d5 1 = .ok (.aload_n 0, 1) := by decide +kernel
theorem dJ7_copyOf_c38d5_2 : decode cJ7_copyOf_c38d5 2 = .ok (.arraylength, 1) := by decide +kernel
theorem dJ7_copyOf_c38d5_3 : decode cJ7_copyOf_c38d5 3 = .ok (.if_icmp .ne 11, 3) := by decide +kernel
theorem dJ7_copyOf_c38d5_6 : decode cJ7_copyOf_c38d5 6 = .ok (.aload_n 0, 1) := by decide +kernel
theorem dJ7_copyOf_c38d5_7 : decode cJ7_copyOf_c38d5 7 = .ok (.invokevirtual 319, 3) := by decide +kernel
theorem dJ7_copyOf_c38d5_10 : decode cJ7_copyOf_c38d5 10 = .ok (.checkcast 320, 3) := by decide +kernel
theorem dJ7_copyOf_c38d5_13 : decode cJ7_copyOf_c38d5 13 = .ok (.areturn, 1) := by decide +kernel
theorem dJ7_copyOf_c38d5_14 : decode cJ7_copyOf_c38d5 14 = .ok (.iload_n 1, 1) := by decide +kernel
theorem dJ7_copyOf_c38d5_15 : decode cJ7_copyOf_c38d5 15 = .ok (.newarray .long, 2) := by decide +kernel
theorem dJ7_copyOf_c38d5_17 : decode cJ7_copyOf_c38d5 17 = .ok (.astore_n 2, 1) := by decide +kernel
theorem dJ7_copyOf_c38d5_18 : decode cJ7_copyOf_c38d5 18 = .ok (.aload_n 0, 1) := by decide +kernel
theorem dJ7_copyOf_c38d5_19 : decode cJ7_copyOf_c38d5 19 = .ok (.iconst 0, 1) := by decide +kernel
theorem dJ7_copyOf_c38d5_20 : decode cJ7_copyOf_c38d5 20 = .ok (.aload_n 2, 1) := by decide +kernel
theorem dJ7_copyOf_c38d5_21 : decode cJ7_copyOf_c38d5 21 = .ok (.iconst 0, 1) := by decide +kernel
theorem dJ7_copyOf_c38d5_22 : decode cJ7_copyOf_c38d5 22 = .ok (.aload_n 0, 1) := by decide +kernel
theorem dJ7_copyOf_c38d5_23 : decode cJ7_copyOf_c38d5 23 = .ok (.arraylength, 1) := by decide +kernel
theorem dJ7_copyOf_c38d5_24 : decode cJ7_copyOf_c38d5 24 = .ok (.iload_n 1, 1) := by decide +kernel
theorem dJ7_copyOf_c38d5_25 : decode cJ7_copyOf_c38d5 25 = .ok (.invokestatic 304, 3) := by decide +kernel
theorem dJ7_copyOf_c38d5_28 : decode cJ7_copyOf_c38d5 28 = .ok (.invokestatic 150, 3) := by decide +kernel
theorem dJ7_copyOf_c38d5_31 : decode cJ7_copyOf_c38d5 31 = .ok (.aload_n 2, 1) := by decide +kernel
theorem dJ7_copyOf_c38d5_32 : decode cJ7_copyOf_c38d5 32 = .ok (.areturn, 1) := by decide +kernel
theorem dJ15_checkIndex_7cf53_0 : decode cJ15_checkIndex_7cf53 0 = .ok (.iload_n 0, 1) := by decide +kernel
theorem dJ15_checkIndex_7cf53_1 : decode cJ15_checkIndex_7cf53 1 = .ok (.iload_n 1, 1) := by decide +kernel
theorem dJ15_checkIndex_7cf53_2 : decode cJ15_checkIndex_7cf53 2 = .ok (.aconst_null, 1) := by decide +kernel
theorem dJ15_checkIndex_7cf53_3 : decode cJ15_checkIndex_7cf53 3 = .ok (.invokestatic 105, 3) := by decide +kernel
theorem dJ15_checkIndex_7cf53_6 : decode cJ15_checkIndex_7cf53 6 = .ok (.ireturn, 1) := by decide +kernel
theorem dJ8_newLength_cabcc_0 : decode cJ8_newLength_cabcc 0 = .ok (.iload_n 0, 1) := by decide +kernel
theorem dJ8_newLength_cabcc_1 : decode cJ8_newLength_cabcc 1 = .ok (.iload_n 1, 1) := by decide +kernel
theorem dJ8_newLength_cabcc_2 : decode cJ8_newLength_cabcc 2 = .ok (.iload_n 2, 1) := by decide +kernel
theorem dJ8_newLength_cabcc_3 : decode cJ8_newLength_cabcc 3 = .ok (.invokestatic 194, 3) := by decide +kernel
theorem dJ8_newLength_cabcc_6 : decode cJ8_newLength_cabcc 6 = .ok (.iadd, 1) := by decide +kernel
theorem dJ8_newLength_cabcc_7 : decode cJ8_newLength_cabcc 7 = .ok (.istore_n 3, 1) := by decide +kernel
theorem dJ8_newLength_cabcc_8 : decode cJ8_newLength_cabcc 8 = .ok (.iconst 0, 1) := by decide +kernel
theorem dJ8_newLength_cabcc_9 : decode cJ8_newLength_cabcc 9 = .ok (.iload_n 3, 1) := by decide +kernel
theorem dJ8_newLength_cabcc_10 : decode cJ8_newLength_cabcc 10 = .ok (.if_icmp .ge 11, 3) := by decide +kernel
theorem dJ8_newLength_cabcc_13 : decode cJ8_newLength_cabcc 13 = .ok (.iload_n 3, 1) := by decide +kernel
theorem dJ8_newLength_cabcc_14 : decode cJ8_newLength_cabcc 14 = .ok (.ldc 200, 2) := by decide +kernel
theorem dJ8_newLength_cabcc_16 : decode cJ8_newLength_cabcc 16 = .ok (.if_icmp .gt 5, 3) := by decide +kernel
theorem dJ8_newLength_cabcc_19 : decode cJ8_newLength_cabcc 19 = .ok (.iload_n 3, 1) := by decide +kernel
theorem dJ8_newLength_cabcc_20 : decode cJ8_newLength_cabcc 20 = .ok (.ireturn, 1) := by decide +kernel
theorem dJ8_newLength_cabcc_21 : decode cJ8_newLength_cabcc 21 = .ok (.iload_n 0, 1) := by decide +kernel
theorem dJ8_newLength_cabcc_22 : decode cJ8_newLength_cabcc 22 = .ok (.iload_n 1, 1) := by decide +kernel
theorem dJ8_newLength_cabcc_23 : decode cJ8_newLength_cabcc 23 = .ok (.invokestatic 201, 3) := by decide +kernel
theorem dJ8_newLength_cabcc_26 : decode cJ8_newLength_cabcc 26 = .ok (.ireturn, 1) := by decide +kernel
theorem dJ8_hugeLength_7cf53_0 : decode cJ8_hugeLength_7cf53 0 = .ok (.iload_n 0, 1) := by decide +kernel
theorem dJ8_hugeLength_7cf53_1 : decode cJ8_hugeLength_7cf53 1 = .ok (.iload_n 1, 1) := by decide +kernel
theorem dJ8_hugeLength_7cf53_2 : decode cJ8_hugeLength_7cf53 2 = .ok (.iadd, 1) := by decide +kernel
theorem dJ8_hugeLength_7cf53_3 : decode cJ8_hugeLength_7cf53 3 = .ok (.istore_n 2, 1) := by decide +kernel
theorem dJ8_hugeLength_7cf53_4 : decode cJ8_hugeLength_7cf53 4 = .ok (.iload_n 2, 1) := by decide +kernel
theorem dJ8_hugeLength_7cf53_5 : decode cJ8_hugeLength_7cf53 5 = .ok (.ifCond .ge 44, 3) := by decide +kernel
theorem dJ8_hugeLength_7cf53_8 : decode cJ8_hugeLength_7cf53 8 = .ok (.new 204, 3) := by decide +kernel
theorem dJ8_hugeLength_7cf53_11 : decode cJ8_hugeLength_7cf53 11 = .ok (.dup, 1) := by decide +kernel
theorem dJ8_hugeLength_7cf53_12 : decode cJ8_hugeLength_7cf53 12 = .ok (.new 89, 3) := by decide +kernel
theorem dJ8_hugeLength_7cf53_15 : decode cJ8_hugeLength_7cf53 15 = .ok (.dup, 1) := by decide +kernel
theorem dJ8_hugeLength_7cf53_16 : decode cJ8_hugeLength_7cf53 16 = .ok (.invokespecial 91, 3) := by decide +kernel
theorem dJ8_hugeLength_7cf53_19 : decode cJ8_hugeLength_7cf53 19 = .ok (.ldc 206, 2) := by decide +kernel
theorem dJ8_hugeLength_7cf53_21 : decode cJ8_hugeLength_7cf53 21 = .ok (.invokevirtual 94, 3) := by decide +kernel
theorem dJ8_hugeLength_7cf53_24 : decode cJ8_hugeLength_7cf53 24 = .ok (.iload_n 0, 1) := by decide +kernel
theorem dJ8_hugeLength_7cf53_25 : decode cJ8_hugeLength_7cf53 25 = .ok (.invokevirtual 98, 3) := by decide +kernel
theorem dJ8_hugeLength_7cf53_28 : decode cJ8_hugeLength_7cf53 28 = .ok (.ldc 208, 2) := by decide +kernel
theorem dJ8_hugeLength_7cf53_30 : decode cJ8_hugeLength_7cf53 30 = .ok (.invokevirtual 94, 3) := by decide +kernel
theorem dJ8_hugeLength_7cf53_33 : decode cJ8_hugeLength_7cf53 33 = .ok (.iload_n 1, 1) := by decide +kernel
theorem dJ8_hugeLength_7cf53_34 : decode cJ8_hugeLength_7cf53 34 = .ok (.invokevirtual 98, 3) := by decide +kernel
theorem dJ8_hugeLength_7cf53_37 : decode cJ8_hugeLength_7cf53 37 = .ok (.ldc 210, 2) := by decide +kernel
theorem dJ8_hugeLength_7cf53_39 : decode cJ8_hugeLength_7cf53 39 = .ok (.invokevirtual 94, 3) := by decide +kernel
theorem dJ8_hugeLength_7cf53_42 : decode cJ8_hugeLength_7cf53 42 = .ok (.invokevirtual 101, 3) := by decide +kernel
theorem dJ8_hugeLength_7cf53_45 : decode cJ8_hugeLength_7cf53 45 = .ok (.invokespecial 212, 3) := by decide +kernel
theorem dJ8_hugeLength_7cf53_48 : decode cJ8_hugeLength_7cf53 48 = .ok (.athrow, 1) := by decide +kernel
theorem dJ8_hugeLength_7cf53_49 : decode cJ8_hugeLength_7cf53 49 = .ok (.iload_n 2, 1) := by decide +kernel
theorem dJ8_hugeLength_7cf53_50 : decode cJ8_hugeLength_7cf53 50 = .ok (.ldc 200, 2) := by decide +kernel
theorem dJ8_hugeLength_7cf53_52 : decode cJ8_hugeLength_7cf53 52 = .ok (.if_icmp .gt 6, 3) := by decide +kernel
theorem dJ8_hugeLength_7cf53_55 : decode cJ8_hugeLength_7cf53 55 = .ok (.ldc 200, 2) := by decide +kernel
theorem dJ8_hugeLength_7cf53_57 : decode cJ8_hugeLength_7cf53 57 = .ok (.ireturn, 1) := by decide +kernel
theorem dJ8_hugeLength_7cf53_58 : decode cJ8_hugeLength_7cf53 58 = .ok (.iload_n 2, 1) := by decide +kernel
theorem dJ8_hugeLength_7cf53_59 : decode cJ8_hugeLength_7cf53 59 = .ok (.ireturn, 1) := by decide +kernel
theorem dJ3_checkIndex_8e157_0 : decode cJ3_checkIndex_8e157 0 = .ok (.iload_n 0, 1) := by decide +kernel
theorem dJ3_checkIndex_8e157_1 : decode cJ3_checkIndex_8e157 1 = .ok (.ifCond .lt 8, 3) := by decide +kernel
theorem dJ3_checkIndex_8e157_4 : decode cJ3_checkIndex_8e157 4 = .ok (.iload_n 0, 1) := by decide +kernel
theorem dJ3_checkIndex_8e157_5 : decode cJ3_checkIndex_8e157 5 = .ok (.iload_n 1, 1) := by decide +kernel
theorem dJ3_checkIndex_8e157_6 : decode cJ3_checkIndex_8e157 6 = .ok (.if_icmp .lt 10, 3) := by decide +kernel
theorem dJ3_checkIndex_8e157_9 : decode cJ3_checkIndex_8e157 9 = .ok (.aload_n 2, 1) := by decide +kernel
theorem dJ3_checkIndex_8e157_10 : decode cJ3_checkIndex_8e157 10 = .ok (.iload_n 0, 1) := by decide +kernel
theorem dJ3_checkIndex_8e157_11 : decode cJ3_checkIndex_8e157 11 = .ok (.iload_n 1, 1) := by decide +kernel
theorem dJ3_checkIndex_8e157_12 : decode cJ3_checkIndex_8e157 12 = .ok (.invokestatic 95, 3) := by decide +kernel
theorem dJ3_checkIndex_8e157_15 : decode cJ3_checkIndex_8e157 15 = .ok (.athrow, 1) := by decide +kernel
theorem dJ3_checkIndex_8e157_16 : decode cJ3_checkIndex_8e157 16 = .ok (.iload_n 0, 1) := by decide +kernel
theorem dJ3_checkIndex_8e157_17 : decode cJ3_checkIndex_8e157 17 = .ok (.ireturn, 1) := by decide +kernel
theorem dL_law_0 : decode cL_law 0 = .ok (.new 7, 3) := by decide +kernel
theorem dL_law_3 : decode cL_law 3 = .ok (.dup, 1) := by decide +kernel
theorem dL_law_4 : decode cL_law 4 = .ok (.invokespecial 9, 3) := by decide +kernel
theorem dL_law_7 : decode cL_law 7 = .ok (.astore_n 1, 1) := by decide +kernel
theorem dL_law_8 : decode cL_law 8 = .ok (.new 10, 3) := by decide +kernel
theorem dL_law_11 : decode cL_law 11 = .ok (.dup, 1) := by decide +kernel
theorem dL_law_12 : decode cL_law 12 = .ok (.invokespecial 12, 3) := by decide +kernel
theorem dL_law_15 : decode cL_law 15 = .ok (.astore_n 2, 1) := by decide +kernel
theorem dL_law_16 : decode cL_law 16 = .ok (.iconst 0, 1) := by decide +kernel
theorem dL_law_17 : decode cL_law 17 = .ok (.istore_n 3, 1) := by decide +kernel
theorem dL_law_18 : decode cL_law 18 = .ok (.iload_n 3, 1) := by decide +kernel
theorem dL_law_19 : decode cL_law 19 = .ok (.aload_n 0, 1) := by decide +kernel
theorem dL_law_20 : decode cL_law 20 = .ok (.arraylength, 1) := by decide +kernel
theorem dL_law_21 : decode cL_law 21 = .ok (.bipush 7, 2) := by decide +kernel
theorem dL_law_23 : decode cL_law 23 = .ok (.isub, 1) := by decide +kernel
theorem dL_law_24 : decode cL_law 24 = .ok (.if_icmp .gt 884, 3) := by decide +kernel
theorem dL_law_27 : decode cL_law 27 = .ok (.aload_n 0, 1) := by decide +kernel
theorem dL_law_28 : decode cL_law 28 = .ok (.iload_n 3, 1) := by decide +kernel
theorem dL_law_29 : decode cL_law 29 = .ok (.iaload, 1) := by decide +kernel
theorem dL_law_30 : decode cL_law 30 = .ok (.bipush 31, 2) := by decide +kernel
theorem dL_law_32 : decode cL_law 32 = .ok (.iand, 1) := by decide +kernel
theorem dL_law_33 : decode cL_law 33 = .ok (.tableswitch 869 0 19 #[95, 210, 303, 386, 409, 452, 475, 498, 521, 574, 607, 630, 653, 676, 699, 732, 756, 790, 823, 856], 95) := by decide +kernel
theorem dL_law_128 : decode cL_law 128 = .ok (.aload_n 1, 1) := by decide +kernel
theorem dL_law_129 : decode cL_law 129 = .ok (.aload_n 0, 1) := by decide +kernel
theorem dL_law_130 : decode cL_law 130 = .ok (.iload_n 3, 1) := by decide +kernel
theorem dL_law_131 : decode cL_law 131 = .ok (.iconst 1, 1) := by decide +kernel
theorem dL_law_132 : decode cL_law 132 = .ok (.iadd, 1) := by decide +kernel
theorem dL_law_133 : decode cL_law 133 = .ok (.iaload, 1) := by decide +kernel
theorem dL_law_134 : decode cL_law 134 = .ok (.aload_n 0, 1) := by decide +kernel
theorem dL_law_135 : decode cL_law 135 = .ok (.iload_n 3, 1) := by decide +kernel
theorem dL_law_136 : decode cL_law 136 = .ok (.iconst 2, 1) := by decide +kernel
theorem dL_law_137 : decode cL_law 137 = .ok (.iadd, 1) := by decide +kernel
theorem dL_law_138 : decode cL_law 138 = .ok (.iaload, 1) := by decide +kernel
theorem dL_law_139 : decode cL_law 139 = .ok (.i2l, 1) := by decide +kernel
theorem dL_law_140 : decode cL_law 140 = .ok (.bipush 32, 2) := by decide +kernel
theorem dL_law_142 : decode cL_law 142 = .ok (.lshl, 1) := by decide +kernel
theorem dL_law_143 : decode cL_law 143 = .ok (.aload_n 0, 1) := by decide +kernel
theorem dL_law_144 : decode cL_law 144 = .ok (.iload_n 3, 1) := by decide +kernel
theorem dL_law_145 : decode cL_law 145 = .ok (.iconst 3, 1) := by decide +kernel
theorem dL_law_146 : decode cL_law 146 = .ok (.iadd, 1) := by decide +kernel
theorem dL_law_147 : decode cL_law 147 = .ok (.iaload, 1) := by decide +kernel
theorem dL_law_148 : decode cL_law 148 = .ok (.i2l, 1) := by decide +kernel
theorem dL_law_149 : decode cL_law 149 = .ok (.ldc2_w 13, 3) := by decide +kernel
theorem dL_law_152 : decode cL_law 152 = .ok (.land, 1) := by decide +kernel
theorem dL_law_153 : decode cL_law 153 = .ok (.lor, 1) := by decide +kernel
theorem dL_law_154 : decode cL_law 154 = .ok (.aload_n 0, 1) := by decide +kernel
theorem dL_law_155 : decode cL_law 155 = .ok (.iload_n 3, 1) := by decide +kernel
theorem dL_law_156 : decode cL_law 156 = .ok (.iconst 4, 1) := by decide +kernel
theorem dL_law_157 : decode cL_law 157 = .ok (.iadd, 1) := by decide +kernel
theorem dL_law_158 : decode cL_law 158 = .ok (.iaload, 1) := by decide +kernel
theorem dL_law_159 : decode cL_law 159 = .ok (.aload_n 0, 1) := by decide +kernel
theorem dL_law_160 : decode cL_law 160 = .ok (.iload_n 3, 1) := by decide +kernel
theorem dL_law_161 : decode cL_law 161 = .ok (.iconst 5, 1) := by decide +kernel
theorem dL_law_162 : decode cL_law 162 = .ok (.iadd, 1) := by decide +kernel
theorem dL_law_163 : decode cL_law 163 = .ok (.iaload, 1) := by decide +kernel
theorem dL_law_164 : decode cL_law 164 = .ok (.i2l, 1) := by decide +kernel
theorem dL_law_165 : decode cL_law 165 = .ok (.bipush 32, 2) := by decide +kernel
theorem dL_law_167 : decode cL_law 167 = .ok (.lshl, 1) := by decide +kernel
theorem dL_law_168 : decode cL_law 168 = .ok (.aload_n 0, 1) := by decide +kernel
theorem dL_law_169 : decode cL_law 169 = .ok (.iload_n 3, 1) := by decide +kernel
theorem dL_law_170 : decode cL_law 170 = .ok (.bipush 6, 2) := by decide +kernel
theorem dL_law_172 : decode cL_law 172 = .ok (.iadd, 1) := by decide +kernel
theorem dL_law_173 : decode cL_law 173 = .ok (.iaload, 1) := by decide +kernel
theorem dL_law_174 : decode cL_law 174 = .ok (.i2l, 1) := by decide +kernel
theorem dL_law_175 : decode cL_law 175 = .ok (.ldc2_w 13, 3) := by decide +kernel
theorem dL_law_178 : decode cL_law 178 = .ok (.land, 1) := by decide +kernel
theorem dL_law_179 : decode cL_law 179 = .ok (.lor, 1) := by decide +kernel
theorem dL_law_180 : decode cL_law 180 = .ok (.invokevirtual 15, 3) := by decide +kernel
theorem dL_law_183 : decode cL_law 183 = .ok (.aload_n 2, 1) := by decide +kernel
theorem dL_law_184 : decode cL_law 184 = .ok (.aload_n 0, 1) := by decide +kernel
theorem dL_law_185 : decode cL_law 185 = .ok (.iload_n 3, 1) := by decide +kernel
theorem dL_law_186 : decode cL_law 186 = .ok (.iconst 1, 1) := by decide +kernel
theorem dL_law_187 : decode cL_law 187 = .ok (.iadd, 1) := by decide +kernel
theorem dL_law_188 : decode cL_law 188 = .ok (.iaload, 1) := by decide +kernel
theorem dL_law_189 : decode cL_law 189 = .ok (.aload_n 0, 1) := by decide +kernel
theorem dL_law_190 : decode cL_law 190 = .ok (.iload_n 3, 1) := by decide +kernel
theorem dL_law_191 : decode cL_law 191 = .ok (.iconst 2, 1) := by decide +kernel
theorem dL_law_192 : decode cL_law 192 = .ok (.iadd, 1) := by decide +kernel
theorem dL_law_193 : decode cL_law 193 = .ok (.iaload, 1) := by decide +kernel
theorem dL_law_194 : decode cL_law 194 = .ok (.i2l, 1) := by decide +kernel
theorem dL_law_195 : decode cL_law 195 = .ok (.bipush 32, 2) := by decide +kernel
theorem dL_law_197 : decode cL_law 197 = .ok (.lshl, 1) := by decide +kernel
theorem dL_law_198 : decode cL_law 198 = .ok (.aload_n 0, 1) := by decide +kernel
theorem dL_law_199 : decode cL_law 199 = .ok (.iload_n 3, 1) := by decide +kernel
theorem dL_law_200 : decode cL_law 200 = .ok (.iconst 3, 1) := by decide +kernel
theorem dL_law_201 : decode cL_law 201 = .ok (.iadd, 1) := by decide +kernel
theorem dL_law_202 : decode cL_law 202 = .ok (.iaload, 1) := by decide +kernel
theorem dL_law_203 : decode cL_law 203 = .ok (.i2l, 1) := by decide +kernel
theorem dL_law_204 : decode cL_law 204 = .ok (.ldc2_w 13, 3) := by decide +kernel
theorem dL_law_207 : decode cL_law 207 = .ok (.land, 1) := by decide +kernel
theorem dL_law_208 : decode cL_law 208 = .ok (.lor, 1) := by decide +kernel
theorem dL_law_209 : decode cL_law 209 = .ok (.aload_n 0, 1) := by decide +kernel
theorem dL_law_210 : decode cL_law 210 = .ok (.iload_n 3, 1) := by decide +kernel
theorem dL_law_211 : decode cL_law 211 = .ok (.iconst 4, 1) := by decide +kernel
theorem dL_law_212 : decode cL_law 212 = .ok (.iadd, 1) := by decide +kernel
theorem dL_law_213 : decode cL_law 213 = .ok (.iaload, 1) := by decide +kernel
theorem dL_law_214 : decode cL_law 214 = .ok (.aload_n 0, 1) := by decide +kernel
theorem dL_law_215 : decode cL_law 215 = .ok (.iload_n 3, 1) := by decide +kernel
theorem dL_law_216 : decode cL_law 216 = .ok (.iconst 5, 1) := by decide +kernel
theorem dL_law_217 : decode cL_law 217 = .ok (.iadd, 1) := by decide +kernel
theorem dL_law_218 : decode cL_law 218 = .ok (.iaload, 1) := by decide +kernel
theorem dL_law_219 : decode cL_law 219 = .ok (.i2l, 1) := by decide +kernel
theorem dL_law_220 : decode cL_law 220 = .ok (.bipush 32, 2) := by decide +kernel
theorem dL_law_222 : decode cL_law 222 = .ok (.lshl, 1) := by decide +kernel
theorem dL_law_223 : decode cL_law 223 = .ok (.aload_n 0, 1) := by decide +kernel
theorem dL_law_224 : decode cL_law 224 = .ok (.iload_n 3, 1) := by decide +kernel
theorem dL_law_225 : decode cL_law 225 = .ok (.bipush 6, 2) := by decide +kernel
theorem dL_law_227 : decode cL_law 227 = .ok (.iadd, 1) := by decide +kernel
theorem dL_law_228 : decode cL_law 228 = .ok (.iaload, 1) := by decide +kernel
theorem dL_law_229 : decode cL_law 229 = .ok (.i2l, 1) := by decide +kernel
theorem dL_law_230 : decode cL_law 230 = .ok (.ldc2_w 13, 3) := by decide +kernel
theorem dL_law_233 : decode cL_law 233 = .ok (.land, 1) := by decide +kernel
theorem dL_law_234 : decode cL_law 234 = .ok (.lor, 1) := by decide +kernel
theorem dL_law_235 : decode cL_law 235 = .ok (.invokevirtual 19, 3) := by decide +kernel
theorem dL_law_238 : decode cL_law 238 = .ok (.if_icmp .eq 664, 3) := by decide +kernel
theorem dL_law_241 : decode cL_law 241 = .ok (.iconst 0, 1) := by decide +kernel
theorem dL_law_242 : decode cL_law 242 = .ok (.ireturn, 1) := by decide +kernel
theorem dL_law_243 : decode cL_law 243 = .ok (.aload_n 1, 1) := by decide +kernel
theorem dL_law_244 : decode cL_law 244 = .ok (.aload_n 0, 1) := by decide +kernel
theorem dL_law_245 : decode cL_law 245 = .ok (.iload_n 3, 1) := by decide +kernel
theorem dL_law_246 : decode cL_law 246 = .ok (.iconst 1, 1) := by decide +kernel
theorem dL_law_247 : decode cL_law 247 = .ok (.iadd, 1) := by decide +kernel
theorem dL_law_248 : decode cL_law 248 = .ok (.iaload, 1) := by decide +kernel
theorem dL_law_249 : decode cL_law 249 = .ok (.i2l, 1) := by decide +kernel
theorem dL_law_250 : decode cL_law 250 = .ok (.bipush 32, 2) := by decide +kernel
theorem dL_law_252 : decode cL_law 252 = .ok (.lshl, 1) := by decide +kernel
theorem dL_law_253 : decode cL_law 253 = .ok (.aload_n 0, 1) := by decide +kernel
theorem dL_law_254 : decode cL_law 254 = .ok (.iload_n 3, 1) := by decide +kernel
theorem dL_law_255 : decode cL_law 255 = .ok (.iconst 2, 1) := by decide +kernel
theorem dL_law_256 : decode cL_law 256 = .ok (.iadd, 1) := by decide +kernel
theorem dL_law_257 : decode cL_law 257 = .ok (.iaload, 1) := by decide +kernel
theorem dL_law_258 : decode cL_law 258 = .ok (.i2l, 1) := by decide +kernel
theorem dL_law_259 : decode cL_law 259 = .ok (.ldc2_w 13, 3) := by decide +kernel
theorem dL_law_262 : decode cL_law 262 = .ok (.land, 1) := by decide +kernel
theorem dL_law_263 : decode cL_law 263 = .ok (.lor, 1) := by decide +kernel
theorem dL_law_264 : decode cL_law 264 = .ok (.aload_n 0, 1) := by decide +kernel
theorem dL_law_265 : decode cL_law 265 = .ok (.iload_n 3, 1) := by decide +kernel
theorem dL_law_266 : decode cL_law 266 = .ok (.iconst 3, 1) := by decide +kernel
theorem dL_law_267 : decode cL_law 267 = .ok (.iadd, 1) := by decide +kernel
theorem dL_law_268 : decode cL_law 268 = .ok (.iaload, 1) := by decide +kernel
theorem dL_law_269 : decode cL_law 269 = .ok (.i2l, 1) := by decide +kernel
theorem dL_law_270 : decode cL_law 270 = .ok (.bipush 32, 2) := by decide +kernel
theorem dL_law_272 : decode cL_law 272 = .ok (.lshl, 1) := by decide +kernel
theorem dL_law_273 : decode cL_law 273 = .ok (.aload_n 0, 1) := by decide +kernel
theorem dL_law_274 : decode cL_law 274 = .ok (.iload_n 3, 1) := by decide +kernel
theorem dL_law_275 : decode cL_law 275 = .ok (.iconst 4, 1) := by decide +kernel
theorem dL_law_276 : decode cL_law 276 = .ok (.iadd, 1) := by decide +kernel
theorem dL_law_277 : decode cL_law 277 = .ok (.iaload, 1) := by decide +kernel
theorem dL_law_278 : decode cL_law 278 = .ok (.i2l, 1) := by decide +kernel
theorem dL_law_279 : decode cL_law 279 = .ok (.ldc2_w 13, 3) := by decide +kernel
theorem dL_law_282 : decode cL_law 282 = .ok (.land, 1) := by decide +kernel
theorem dL_law_283 : decode cL_law 283 = .ok (.lor, 1) := by decide +kernel
theorem dL_law_284 : decode cL_law 284 = .ok (.invokevirtual 20, 3) := by decide +kernel
theorem dL_law_287 : decode cL_law 287 = .ok (.aload_n 2, 1) := by decide +kernel
theorem dL_law_288 : decode cL_law 288 = .ok (.aload_n 0, 1) := by decide +kernel
theorem dL_law_289 : decode cL_law 289 = .ok (.iload_n 3, 1) := by decide +kernel
theorem dL_law_290 : decode cL_law 290 = .ok (.iconst 1, 1) := by decide +kernel
theorem dL_law_291 : decode cL_law 291 = .ok (.iadd, 1) := by decide +kernel
theorem dL_law_292 : decode cL_law 292 = .ok (.iaload, 1) := by decide +kernel
theorem dL_law_293 : decode cL_law 293 = .ok (.i2l, 1) := by decide +kernel
theorem dL_law_294 : decode cL_law 294 = .ok (.bipush 32, 2) := by decide +kernel
theorem dL_law_296 : decode cL_law 296 = .ok (.lshl, 1) := by decide +kernel
theorem dL_law_297 : decode cL_law 297 = .ok (.aload_n 0, 1) := by decide +kernel
theorem dL_law_298 : decode cL_law 298 = .ok (.iload_n 3, 1) := by decide +kernel
theorem dL_law_299 : decode cL_law 299 = .ok (.iconst 2, 1) := by decide +kernel
theorem dL_law_300 : decode cL_law 300 = .ok (.iadd, 1) := by decide +kernel
theorem dL_law_301 : decode cL_law 301 = .ok (.iaload, 1) := by decide +kernel
theorem dL_law_302 : decode cL_law 302 = .ok (.i2l, 1) := by decide +kernel
theorem dL_law_303 : decode cL_law 303 = .ok (.ldc2_w 13, 3) := by decide +kernel
theorem dL_law_306 : decode cL_law 306 = .ok (.land, 1) := by decide +kernel
theorem dL_law_307 : decode cL_law 307 = .ok (.lor, 1) := by decide +kernel
theorem dL_law_308 : decode cL_law 308 = .ok (.aload_n 0, 1) := by decide +kernel
theorem dL_law_309 : decode cL_law 309 = .ok (.iload_n 3, 1) := by decide +kernel
theorem dL_law_310 : decode cL_law 310 = .ok (.iconst 3, 1) := by decide +kernel
theorem dL_law_311 : decode cL_law 311 = .ok (.iadd, 1) := by decide +kernel
theorem dL_law_312 : decode cL_law 312 = .ok (.iaload, 1) := by decide +kernel
theorem dL_law_313 : decode cL_law 313 = .ok (.i2l, 1) := by decide +kernel
theorem dL_law_314 : decode cL_law 314 = .ok (.bipush 32, 2) := by decide +kernel
theorem dL_law_316 : decode cL_law 316 = .ok (.lshl, 1) := by decide +kernel
theorem dL_law_317 : decode cL_law 317 = .ok (.aload_n 0, 1) := by decide +kernel
theorem dL_law_318 : decode cL_law 318 = .ok (.iload_n 3, 1) := by decide +kernel
theorem dL_law_319 : decode cL_law 319 = .ok (.iconst 4, 1) := by decide +kernel
theorem dL_law_320 : decode cL_law 320 = .ok (.iadd, 1) := by decide +kernel
theorem dL_law_321 : decode cL_law 321 = .ok (.iaload, 1) := by decide +kernel
theorem dL_law_322 : decode cL_law 322 = .ok (.i2l, 1) := by decide +kernel
theorem dL_law_323 : decode cL_law 323 = .ok (.ldc2_w 13, 3) := by decide +kernel
theorem dL_law_326 : decode cL_law 326 = .ok (.land, 1) := by decide +kernel
theorem dL_law_327 : decode cL_law 327 = .ok (.lor, 1) := by decide +kernel
theorem dL_law_328 : decode cL_law 328 = .ok (.invokevirtual 24, 3) := by decide +kernel
theorem dL_law_331 : decode cL_law 331 = .ok (.if_icmp .eq 571, 3) := by decide +kernel
theorem dL_law_334 : decode cL_law 334 = .ok (.iconst 0, 1) := by decide +kernel
theorem dL_law_335 : decode cL_law 335 = .ok (.ireturn, 1) := by decide +kernel
theorem dL_law_336 : decode cL_law 336 = .ok (.aload_n 1, 1) := by decide +kernel
theorem dL_law_337 : decode cL_law 337 = .ok (.aload_n 0, 1) := by decide +kernel
theorem dL_law_338 : decode cL_law 338 = .ok (.iload_n 3, 1) := by decide +kernel
theorem dL_law_339 : decode cL_law 339 = .ok (.iconst 1, 1) := by decide +kernel
theorem dL_law_340 : decode cL_law 340 = .ok (.iadd, 1) := by decide +kernel
theorem dL_law_341 : decode cL_law 341 = .ok (.iaload, 1) := by decide +kernel
theorem dL_law_342 : decode cL_law 342 = .ok (.aload_n 0, 1) := by decide +kernel
theorem dL_law_343 : decode cL_law 343 = .ok (.iload_n 3, 1) := by decide +kernel
theorem dL_law_344 : decode cL_law 344 = .ok (.iconst 2, 1) := by decide +kernel
theorem dL_law_345 : decode cL_law 345 = .ok (.iadd, 1) := by decide +kernel
theorem dL_law_346 : decode cL_law 346 = .ok (.iaload, 1) := by decide +kernel
theorem dL_law_347 : decode cL_law 347 = .ok (.aload_n 0, 1) := by decide +kernel
theorem dL_law_348 : decode cL_law 348 = .ok (.iload_n 3, 1) := by decide +kernel
theorem dL_law_349 : decode cL_law 349 = .ok (.iconst 3, 1) := by decide +kernel
theorem dL_law_350 : decode cL_law 350 = .ok (.iadd, 1) := by decide +kernel
theorem dL_law_351 : decode cL_law 351 = .ok (.iaload, 1) := by decide +kernel
theorem dL_law_352 : decode cL_law 352 = .ok (.i2l, 1) := by decide +kernel
theorem dL_law_353 : decode cL_law 353 = .ok (.bipush 32, 2) := by decide +kernel
theorem dL_law_355 : decode cL_law 355 = .ok (.lshl, 1) := by decide +kernel
theorem dL_law_356 : decode cL_law 356 = .ok (.aload_n 0, 1) := by decide +kernel
theorem dL_law_357 : decode cL_law 357 = .ok (.iload_n 3, 1) := by decide +kernel
theorem dL_law_358 : decode cL_law 358 = .ok (.iconst 4, 1) := by decide +kernel
theorem dL_law_359 : decode cL_law 359 = .ok (.iadd, 1) := by decide +kernel
theorem dL_law_360 : decode cL_law 360 = .ok (.iaload, 1) := by decide +kernel
theorem dL_law_361 : decode cL_law 361 = .ok (.i2l, 1) := by decide +kernel
theorem dL_law_362 : decode cL_law 362 = .ok (.ldc2_w 13, 3) := by decide +kernel
theorem dL_law_365 : decode cL_law 365 = .ok (.land, 1) := by decide +kernel
theorem dL_law_366 : decode cL_law 366 = .ok (.lor, 1) := by decide +kernel
theorem dL_law_367 : decode cL_law 367 = .ok (.aload_n 0, 1) := by decide +kernel
theorem dL_law_368 : decode cL_law 368 = .ok (.iload_n 3, 1) := by decide +kernel
theorem dL_law_369 : decode cL_law 369 = .ok (.iconst 5, 1) := by decide +kernel
theorem dL_law_370 : decode cL_law 370 = .ok (.iadd, 1) := by decide +kernel
theorem dL_law_371 : decode cL_law 371 = .ok (.iaload, 1) := by decide +kernel
theorem dL_law_372 : decode cL_law 372 = .ok (.invokevirtual 25, 3) := by decide +kernel
theorem dL_law_375 : decode cL_law 375 = .ok (.aload_n 2, 1) := by decide +kernel
theorem dL_law_376 : decode cL_law 376 = .ok (.aload_n 0, 1) := by decide +kernel
theorem dL_law_377 : decode cL_law 377 = .ok (.iload_n 3, 1) := by decide +kernel
theorem dL_law_378 : decode cL_law 378 = .ok (.iconst 1, 1) := by decide +kernel
theorem dL_law_379 : decode cL_law 379 = .ok (.iadd, 1) := by decide +kernel
theorem dL_law_380 : decode cL_law 380 = .ok (.iaload, 1) := by decide +kernel
theorem dL_law_381 : decode cL_law 381 = .ok (.aload_n 0, 1) := by decide +kernel
theorem dL_law_382 : decode cL_law 382 = .ok (.iload_n 3, 1) := by decide +kernel
theorem dL_law_383 : decode cL_law 383 = .ok (.iconst 2, 1) := by decide +kernel
theorem dL_law_384 : decode cL_law 384 = .ok (.iadd, 1) := by decide +kernel
theorem dL_law_385 : decode cL_law 385 = .ok (.iaload, 1) := by decide +kernel
theorem dL_law_386 : decode cL_law 386 = .ok (.aload_n 0, 1) := by decide +kernel
theorem dL_law_387 : decode cL_law 387 = .ok (.iload_n 3, 1) := by decide +kernel
theorem dL_law_388 : decode cL_law 388 = .ok (.iconst 3, 1) := by decide +kernel
theorem dL_law_389 : decode cL_law 389 = .ok (.iadd, 1) := by decide +kernel
theorem dL_law_390 : decode cL_law 390 = .ok (.iaload, 1) := by decide +kernel
theorem dL_law_391 : decode cL_law 391 = .ok (.i2l, 1) := by decide +kernel
theorem dL_law_392 : decode cL_law 392 = .ok (.bipush 32, 2) := by decide +kernel
theorem dL_law_394 : decode cL_law 394 = .ok (.lshl, 1) := by decide +kernel
theorem dL_law_395 : decode cL_law 395 = .ok (.aload_n 0, 1) := by decide +kernel
theorem dL_law_396 : decode cL_law 396 = .ok (.iload_n 3, 1) := by decide +kernel
theorem dL_law_397 : decode cL_law 397 = .ok (.iconst 4, 1) := by decide +kernel
theorem dL_law_398 : decode cL_law 398 = .ok (.iadd, 1) := by decide +kernel
theorem dL_law_399 : decode cL_law 399 = .ok (.iaload, 1) := by decide +kernel
theorem dL_law_400 : decode cL_law 400 = .ok (.i2l, 1) := by decide +kernel
theorem dL_law_401 : decode cL_law 401 = .ok (.ldc2_w 13, 3) := by decide +kernel
theorem dL_law_404 : decode cL_law 404 = .ok (.land, 1) := by decide +kernel
theorem dL_law_405 : decode cL_law 405 = .ok (.lor, 1) := by decide +kernel
theorem dL_law_406 : decode cL_law 406 = .ok (.aload_n 0, 1) := by decide +kernel
theorem dL_law_407 : decode cL_law 407 = .ok (.iload_n 3, 1) := by decide +kernel
theorem dL_law_408 : decode cL_law 408 = .ok (.iconst 5, 1) := by decide +kernel
theorem dL_law_409 : decode cL_law 409 = .ok (.iadd, 1) := by decide +kernel
theorem dL_law_410 : decode cL_law 410 = .ok (.iaload, 1) := by decide +kernel
theorem dL_law_411 : decode cL_law 411 = .ok (.invokevirtual 29, 3) := by decide +kernel
theorem dL_law_414 : decode cL_law 414 = .ok (.if_icmp .eq 488, 3) := by decide +kernel
theorem dL_law_417 : decode cL_law 417 = .ok (.iconst 0, 1) := by decide +kernel
theorem dL_law_418 : decode cL_law 418 = .ok (.ireturn, 1) := by decide +kernel
theorem dL_law_419 : decode cL_law 419 = .ok (.aload_n 1, 1) := by decide +kernel
theorem dL_law_420 : decode cL_law 420 = .ok (.aload_n 0, 1) := by decide +kernel
theorem dL_law_421 : decode cL_law 421 = .ok (.iload_n 3, 1) := by decide +kernel
theorem dL_law_422 : decode cL_law 422 = .ok (.iconst 1, 1) := by decide +kernel
theorem dL_law_423 : decode cL_law 423 = .ok (.iadd, 1) := by decide +kernel
theorem dL_law_424 : decode cL_law 424 = .ok (.iaload, 1) := by decide +kernel
theorem dL_law_425 : decode cL_law 425 = .ok (.invokevirtual 30, 3) := by decide +kernel
theorem dL_law_428 : decode cL_law 428 = .ok (.aload_n 2, 1) := by decide +kernel
theorem dL_law_429 : decode cL_law 429 = .ok (.aload_n 0, 1) := by decide +kernel
theorem dL_law_430 : decode cL_law 430 = .ok (.iload_n 3, 1) := by decide +kernel
theorem dL_law_431 : decode cL_law 431 = .ok (.iconst 1, 1) := by decide +kernel
theorem dL_law_432 : decode cL_law 432 = .ok (.iadd, 1) := by decide +kernel
theorem dL_law_433 : decode cL_law 433 = .ok (.iaload, 1) := by decide +kernel
theorem dL_law_434 : decode cL_law 434 = .ok (.invokevirtual 34, 3) := by decide +kernel
theorem dL_law_437 : decode cL_law 437 = .ok (.if_icmp .eq 465, 3) := by decide +kernel
theorem dL_law_440 : decode cL_law 440 = .ok (.iconst 0, 1) := by decide +kernel
theorem dL_law_441 : decode cL_law 441 = .ok (.ireturn, 1) := by decide +kernel
theorem dL_law_442 : decode cL_law 442 = .ok (.aload_n 1, 1) := by decide +kernel
theorem dL_law_443 : decode cL_law 443 = .ok (.aload_n 0, 1) := by decide +kernel
theorem dL_law_444 : decode cL_law 444 = .ok (.iload_n 3, 1) := by decide +kernel
theorem dL_law_445 : decode cL_law 445 = .ok (.iconst 1, 1) := by decide +kernel
theorem dL_law_446 : decode cL_law 446 = .ok (.iadd, 1) := by decide +kernel
theorem dL_law_447 : decode cL_law 447 = .ok (.iaload, 1) := by decide +kernel
theorem dL_law_448 : decode cL_law 448 = .ok (.aload_n 0, 1) := by decide +kernel
theorem dL_law_449 : decode cL_law 449 = .ok (.iload_n 3, 1) := by decide +kernel
theorem dL_law_450 : decode cL_law 450 = .ok (.iconst 2, 1) := by decide +kernel
theorem dL_law_451 : decode cL_law 451 = .ok (.iadd, 1) := by decide +kernel
theorem dL_law_452 : decode cL_law 452 = .ok (.iaload, 1) := by decide +kernel
theorem dL_law_453 : decode cL_law 453 = .ok (.aload_n 0, 1) := by decide +kernel
theorem dL_law_454 : decode cL_law 454 = .ok (.iload_n 3, 1) := by decide +kernel
theorem dL_law_455 : decode cL_law 455 = .ok (.iconst 3, 1) := by decide +kernel
theorem dL_law_456 : decode cL_law 456 = .ok (.iadd, 1) := by decide +kernel
theorem dL_law_457 : decode cL_law 457 = .ok (.iaload, 1) := by decide +kernel
theorem dL_law_458 : decode cL_law 458 = .ok (.invokevirtual 35, 3) := by decide +kernel
theorem dL_law_461 : decode cL_law 461 = .ok (.aload_n 2, 1) := by decide +kernel
theorem dL_law_462 : decode cL_law 462 = .ok (.aload_n 0, 1) := by decide +kernel
theorem dL_law_463 : decode cL_law 463 = .ok (.iload_n 3, 1) := by decide +kernel
theorem dL_law_464 : decode cL_law 464 = .ok (.iconst 1, 1) := by decide +kernel
theorem dL_law_465 : decode cL_law 465 = .ok (.iadd, 1) := by decide +kernel
theorem dL_law_466 : decode cL_law 466 = .ok (.iaload, 1) := by decide +kernel
theorem dL_law_467 : decode cL_law 467 = .ok (.aload_n 0, 1) := by decide +kernel
theorem dL_law_468 : decode cL_law 468 = .ok (.iload_n 3, 1) := by decide +kernel
theorem dL_law_469 : decode cL_law 469 = .ok (.iconst 2, 1) := by decide +kernel
theorem dL_law_470 : decode cL_law 470 = .ok (.iadd, 1) := by decide +kernel
theorem dL_law_471 : decode cL_law 471 = .ok (.iaload, 1) := by decide +kernel
theorem dL_law_472 : decode cL_law 472 = .ok (.aload_n 0, 1) := by decide +kernel
theorem dL_law_473 : decode cL_law 473 = .ok (.iload_n 3, 1) := by decide +kernel
theorem dL_law_474 : decode cL_law 474 = .ok (.iconst 3, 1) := by decide +kernel
theorem dL_law_475 : decode cL_law 475 = .ok (.iadd, 1) := by decide +kernel
theorem dL_law_476 : decode cL_law 476 = .ok (.iaload, 1) := by decide +kernel
theorem dL_law_477 : decode cL_law 477 = .ok (.invokevirtual 39, 3) := by decide +kernel
theorem dL_law_480 : decode cL_law 480 = .ok (.if_icmp .eq 422, 3) := by decide +kernel
theorem dL_law_483 : decode cL_law 483 = .ok (.iconst 0, 1) := by decide +kernel
theorem dL_law_484 : decode cL_law 484 = .ok (.ireturn, 1) := by decide +kernel
theorem dL_law_485 : decode cL_law 485 = .ok (.aload_n 1, 1) := by decide +kernel
theorem dL_law_486 : decode cL_law 486 = .ok (.aload_n 0, 1) := by decide +kernel
theorem dL_law_487 : decode cL_law 487 = .ok (.iload_n 3, 1) := by decide +kernel
theorem dL_law_488 : decode cL_law 488 = .ok (.iconst 1, 1) := by decide +kernel
theorem dL_law_489 : decode cL_law 489 = .ok (.iadd, 1) := by decide +kernel
theorem dL_law_490 : decode cL_law 490 = .ok (.iaload, 1) := by decide +kernel
theorem dL_law_491 : decode cL_law 491 = .ok (.invokevirtual 40, 3) := by decide +kernel
theorem dL_law_494 : decode cL_law 494 = .ok (.aload_n 2, 1) := by decide +kernel
theorem dL_law_495 : decode cL_law 495 = .ok (.aload_n 0, 1) := by decide +kernel
theorem dL_law_496 : decode cL_law 496 = .ok (.iload_n 3, 1) := by decide +kernel
theorem dL_law_497 : decode cL_law 497 = .ok (.iconst 1, 1) := by decide +kernel
theorem dL_law_498 : decode cL_law 498 = .ok (.iadd, 1) := by decide +kernel
theorem dL_law_499 : decode cL_law 499 = .ok (.iaload, 1) := by decide +kernel
theorem dL_law_500 : decode cL_law 500 = .ok (.invokevirtual 44, 3) := by decide +kernel
theorem dL_law_503 : decode cL_law 503 = .ok (.if_icmp .eq 399, 3) := by decide +kernel
theorem dL_law_506 : decode cL_law 506 = .ok (.iconst 0, 1) := by decide +kernel
theorem dL_law_507 : decode cL_law 507 = .ok (.ireturn, 1) := by decide +kernel
theorem dL_law_508 : decode cL_law 508 = .ok (.aload_n 1, 1) := by decide +kernel
theorem dL_law_509 : decode cL_law 509 = .ok (.aload_n 0, 1) := by decide +kernel
theorem dL_law_510 : decode cL_law 510 = .ok (.iload_n 3, 1) := by decide +kernel
theorem dL_law_511 : decode cL_law 511 = .ok (.iconst 1, 1) := by decide +kernel
theorem dL_law_512 : decode cL_law 512 = .ok (.iadd, 1) := by decide +kernel
theorem dL_law_513 : decode cL_law 513 = .ok (.iaload, 1) := by decide +kernel
theorem dL_law_514 : decode cL_law 514 = .ok (.invokevirtual 45, 3) := by decide +kernel
theorem dL_law_517 : decode cL_law 517 = .ok (.aload_n 2, 1) := by decide +kernel
theorem dL_law_518 : decode cL_law 518 = .ok (.aload_n 0, 1) := by decide +kernel
theorem dL_law_519 : decode cL_law 519 = .ok (.iload_n 3, 1) := by decide +kernel
theorem dL_law_520 : decode cL_law 520 = .ok (.iconst 1, 1) := by decide +kernel
theorem dL_law_521 : decode cL_law 521 = .ok (.iadd, 1) := by decide +kernel
theorem dL_law_522 : decode cL_law 522 = .ok (.iaload, 1) := by decide +kernel
theorem dL_law_523 : decode cL_law 523 = .ok (.invokevirtual 48, 3) := by decide +kernel
theorem dL_law_526 : decode cL_law 526 = .ok (.if_icmp .eq 376, 3) := by decide +kernel
theorem dL_law_529 : decode cL_law 529 = .ok (.iconst 0, 1) := by decide +kernel
theorem dL_law_530 : decode cL_law 530 = .ok (.ireturn, 1) := by decide +kernel
theorem dL_law_531 : decode cL_law 531 = .ok (.aload_n 1, 1) := by decide +kernel
theorem dL_law_532 : decode cL_law 532 = .ok (.aload_n 0, 1) := by decide +kernel
theorem dL_law_533 : decode cL_law 533 = .ok (.iload_n 3, 1) := by decide +kernel
theorem dL_law_534 : decode cL_law 534 = .ok (.iconst 1, 1) := by decide +kernel
theorem dL_law_535 : decode cL_law 535 = .ok (.iadd, 1) := by decide +kernel
theorem dL_law_536 : decode cL_law 536 = .ok (.iaload, 1) := by decide +kernel
theorem dL_law_537 : decode cL_law 537 = .ok (.invokevirtual 49, 3) := by decide +kernel
theorem dL_law_540 : decode cL_law 540 = .ok (.aload_n 2, 1) := by decide +kernel
theorem dL_law_541 : decode cL_law 541 = .ok (.aload_n 0, 1) := by decide +kernel
theorem dL_law_542 : decode cL_law 542 = .ok (.iload_n 3, 1) := by decide +kernel
theorem dL_law_543 : decode cL_law 543 = .ok (.iconst 1, 1) := by decide +kernel
theorem dL_law_544 : decode cL_law 544 = .ok (.iadd, 1) := by decide +kernel
theorem dL_law_545 : decode cL_law 545 = .ok (.iaload, 1) := by decide +kernel
theorem dL_law_546 : decode cL_law 546 = .ok (.invokevirtual 52, 3) := by decide +kernel
theorem dL_law_549 : decode cL_law 549 = .ok (.if_icmp .eq 353, 3) := by decide +kernel
theorem dL_law_552 : decode cL_law 552 = .ok (.iconst 0, 1) := by decide +kernel
theorem dL_law_553 : decode cL_law 553 = .ok (.ireturn, 1) := by decide +kernel
theorem dL_law_554 : decode cL_law 554 = .ok (.aload_n 1, 1) := by decide +kernel
theorem dL_law_555 : decode cL_law 555 = .ok (.aload_n 0, 1) := by decide +kernel
theorem dL_law_556 : decode cL_law 556 = .ok (.iload_n 3, 1) := by decide +kernel
theorem dL_law_557 : decode cL_law 557 = .ok (.iconst 1, 1) := by decide +kernel
theorem dL_law_558 : decode cL_law 558 = .ok (.iadd, 1) := by decide +kernel
theorem dL_law_559 : decode cL_law 559 = .ok (.iaload, 1) := by decide +kernel
theorem dL_law_560 : decode cL_law 560 = .ok (.aload_n 0, 1) := by decide +kernel
theorem dL_law_561 : decode cL_law 561 = .ok (.iload_n 3, 1) := by decide +kernel
theorem dL_law_562 : decode cL_law 562 = .ok (.iconst 2, 1) := by decide +kernel
theorem dL_law_563 : decode cL_law 563 = .ok (.iadd, 1) := by decide +kernel
theorem dL_law_564 : decode cL_law 564 = .ok (.iaload, 1) := by decide +kernel
theorem dL_law_565 : decode cL_law 565 = .ok (.aload_n 0, 1) := by decide +kernel
theorem dL_law_566 : decode cL_law 566 = .ok (.iload_n 3, 1) := by decide +kernel
theorem dL_law_567 : decode cL_law 567 = .ok (.iconst 3, 1) := by decide +kernel
theorem dL_law_568 : decode cL_law 568 = .ok (.iadd, 1) := by decide +kernel
theorem dL_law_569 : decode cL_law 569 = .ok (.iaload, 1) := by decide +kernel
theorem dL_law_570 : decode cL_law 570 = .ok (.aload_n 0, 1) := by decide +kernel
theorem dL_law_571 : decode cL_law 571 = .ok (.iload_n 3, 1) := by decide +kernel
theorem dL_law_572 : decode cL_law 572 = .ok (.iconst 4, 1) := by decide +kernel
theorem dL_law_573 : decode cL_law 573 = .ok (.iadd, 1) := by decide +kernel
theorem dL_law_574 : decode cL_law 574 = .ok (.iaload, 1) := by decide +kernel
theorem dL_law_575 : decode cL_law 575 = .ok (.invokevirtual 53, 3) := by decide +kernel
theorem dL_law_578 : decode cL_law 578 = .ok (.aload_n 2, 1) := by decide +kernel
theorem dL_law_579 : decode cL_law 579 = .ok (.aload_n 0, 1) := by decide +kernel
theorem dL_law_580 : decode cL_law 580 = .ok (.iload_n 3, 1) := by decide +kernel
theorem dL_law_581 : decode cL_law 581 = .ok (.iconst 1, 1) := by decide +kernel
theorem dL_law_582 : decode cL_law 582 = .ok (.iadd, 1) := by decide +kernel
theorem dL_law_583 : decode cL_law 583 = .ok (.iaload, 1) := by decide +kernel
theorem dL_law_584 : decode cL_law 584 = .ok (.aload_n 0, 1) := by decide +kernel
theorem dL_law_585 : decode cL_law 585 = .ok (.iload_n 3, 1) := by decide +kernel
theorem dL_law_586 : decode cL_law 586 = .ok (.iconst 2, 1) := by decide +kernel
theorem dL_law_587 : decode cL_law 587 = .ok (.iadd, 1) := by decide +kernel
theorem dL_law_588 : decode cL_law 588 = .ok (.iaload, 1) := by decide +kernel
theorem dL_law_589 : decode cL_law 589 = .ok (.aload_n 0, 1) := by decide +kernel
theorem dL_law_590 : decode cL_law 590 = .ok (.iload_n 3, 1) := by decide +kernel
theorem dL_law_591 : decode cL_law 591 = .ok (.iconst 3, 1) := by decide +kernel
theorem dL_law_592 : decode cL_law 592 = .ok (.iadd, 1) := by decide +kernel
theorem dL_law_593 : decode cL_law 593 = .ok (.iaload, 1) := by decide +kernel
theorem dL_law_594 : decode cL_law 594 = .ok (.aload_n 0, 1) := by decide +kernel
theorem dL_law_595 : decode cL_law 595 = .ok (.iload_n 3, 1) := by decide +kernel
theorem dL_law_596 : decode cL_law 596 = .ok (.iconst 4, 1) := by decide +kernel
theorem dL_law_597 : decode cL_law 597 = .ok (.iadd, 1) := by decide +kernel
theorem dL_law_598 : decode cL_law 598 = .ok (.iaload, 1) := by decide +kernel
theorem dL_law_599 : decode cL_law 599 = .ok (.invokevirtual 57, 3) := by decide +kernel
theorem dL_law_602 : decode cL_law 602 = .ok (.if_icmp .eq 300, 3) := by decide +kernel
theorem dL_law_605 : decode cL_law 605 = .ok (.iconst 0, 1) := by decide +kernel
theorem dL_law_606 : decode cL_law 606 = .ok (.ireturn, 1) := by decide +kernel
theorem dL_law_607 : decode cL_law 607 = .ok (.aload_n 1, 1) := by decide +kernel
theorem dL_law_608 : decode cL_law 608 = .ok (.aload_n 0, 1) := by decide +kernel
theorem dL_law_609 : decode cL_law 609 = .ok (.iload_n 3, 1) := by decide +kernel
theorem dL_law_610 : decode cL_law 610 = .ok (.iconst 1, 1) := by decide +kernel
theorem dL_law_611 : decode cL_law 611 = .ok (.iadd, 1) := by decide +kernel
theorem dL_law_612 : decode cL_law 612 = .ok (.iaload, 1) := by decide +kernel
theorem dL_law_613 : decode cL_law 613 = .ok (.aload_n 0, 1) := by decide +kernel
theorem dL_law_614 : decode cL_law 614 = .ok (.iload_n 3, 1) := by decide +kernel
theorem dL_law_615 : decode cL_law 615 = .ok (.iconst 2, 1) := by decide +kernel
theorem dL_law_616 : decode cL_law 616 = .ok (.iadd, 1) := by decide +kernel
theorem dL_law_617 : decode cL_law 617 = .ok (.iaload, 1) := by decide +kernel
theorem dL_law_618 : decode cL_law 618 = .ok (.invokevirtual 58, 3) := by decide +kernel
theorem dL_law_621 : decode cL_law 621 = .ok (.aload_n 2, 1) := by decide +kernel
theorem dL_law_622 : decode cL_law 622 = .ok (.aload_n 0, 1) := by decide +kernel
theorem dL_law_623 : decode cL_law 623 = .ok (.iload_n 3, 1) := by decide +kernel
theorem dL_law_624 : decode cL_law 624 = .ok (.iconst 1, 1) := by decide +kernel
theorem dL_law_625 : decode cL_law 625 = .ok (.iadd, 1) := by decide +kernel
theorem dL_law_626 : decode cL_law 626 = .ok (.iaload, 1) := by decide +kernel
theorem dL_law_627 : decode cL_law 627 = .ok (.aload_n 0, 1) := by decide +kernel
theorem dL_law_628 : decode cL_law 628 = .ok (.iload_n 3, 1) := by decide +kernel
theorem dL_law_629 : decode cL_law 629 = .ok (.iconst 2, 1) := by decide +kernel
theorem dL_law_630 : decode cL_law 630 = .ok (.iadd, 1) := by decide +kernel
theorem dL_law_631 : decode cL_law 631 = .ok (.iaload, 1) := by decide +kernel
theorem dL_law_632 : decode cL_law 632 = .ok (.invokevirtual 62, 3) := by decide +kernel
theorem dL_law_635 : decode cL_law 635 = .ok (.if_icmp .eq 267, 3) := by decide +kernel
theorem dL_law_638 : decode cL_law 638 = .ok (.iconst 0, 1) := by decide +kernel
theorem dL_law_639 : decode cL_law 639 = .ok (.ireturn, 1) := by decide +kernel
theorem dL_law_640 : decode cL_law 640 = .ok (.aload_n 1, 1) := by decide +kernel
theorem dL_law_641 : decode cL_law 641 = .ok (.aload_n 0, 1) := by decide +kernel
theorem dL_law_642 : decode cL_law 642 = .ok (.iload_n 3, 1) := by decide +kernel
theorem dL_law_643 : decode cL_law 643 = .ok (.iconst 1, 1) := by decide +kernel
theorem dL_law_644 : decode cL_law 644 = .ok (.iadd, 1) := by decide +kernel
theorem dL_law_645 : decode cL_law 645 = .ok (.iaload, 1) := by decide +kernel
theorem dL_law_646 : decode cL_law 646 = .ok (.invokevirtual 63, 3) := by decide +kernel
theorem dL_law_649 : decode cL_law 649 = .ok (.aload_n 2, 1) := by decide +kernel
theorem dL_law_650 : decode cL_law 650 = .ok (.aload_n 0, 1) := by decide +kernel
theorem dL_law_651 : decode cL_law 651 = .ok (.iload_n 3, 1) := by decide +kernel
theorem dL_law_652 : decode cL_law 652 = .ok (.iconst 1, 1) := by decide +kernel
theorem dL_law_653 : decode cL_law 653 = .ok (.iadd, 1) := by decide +kernel
theorem dL_law_654 : decode cL_law 654 = .ok (.iaload, 1) := by decide +kernel
theorem dL_law_655 : decode cL_law 655 = .ok (.invokevirtual 66, 3) := by decide +kernel
theorem dL_law_658 : decode cL_law 658 = .ok (.if_icmp .eq 244, 3) := by decide +kernel
theorem dL_law_661 : decode cL_law 661 = .ok (.iconst 0, 1) := by decide +kernel
theorem dL_law_662 : decode cL_law 662 = .ok (.ireturn, 1) := by decide +kernel
theorem dL_law_663 : decode cL_law 663 = .ok (.aload_n 1, 1) := by decide +kernel
theorem dL_law_664 : decode cL_law 664 = .ok (.aload_n 0, 1) := by decide +kernel
theorem dL_law_665 : decode cL_law 665 = .ok (.iload_n 3, 1) := by decide +kernel
theorem dL_law_666 : decode cL_law 666 = .ok (.iconst 1, 1) := by decide +kernel
theorem dL_law_667 : decode cL_law 667 = .ok (.iadd, 1) := by decide +kernel
theorem dL_law_668 : decode cL_law 668 = .ok (.iaload, 1) := by decide +kernel
theorem dL_law_669 : decode cL_law 669 = .ok (.invokevirtual 67, 3) := by decide +kernel
theorem dL_law_672 : decode cL_law 672 = .ok (.aload_n 2, 1) := by decide +kernel
theorem dL_law_673 : decode cL_law 673 = .ok (.aload_n 0, 1) := by decide +kernel
theorem dL_law_674 : decode cL_law 674 = .ok (.iload_n 3, 1) := by decide +kernel
theorem dL_law_675 : decode cL_law 675 = .ok (.iconst 1, 1) := by decide +kernel
theorem dL_law_676 : decode cL_law 676 = .ok (.iadd, 1) := by decide +kernel
theorem dL_law_677 : decode cL_law 677 = .ok (.iaload, 1) := by decide +kernel
theorem dL_law_678 : decode cL_law 678 = .ok (.invokevirtual 70, 3) := by decide +kernel
theorem dL_law_681 : decode cL_law 681 = .ok (.if_icmp .eq 221, 3) := by decide +kernel
theorem dL_law_684 : decode cL_law 684 = .ok (.iconst 0, 1) := by decide +kernel
theorem dL_law_685 : decode cL_law 685 = .ok (.ireturn, 1) := by decide +kernel
theorem dL_law_686 : decode cL_law 686 = .ok (.aload_n 1, 1) := by decide +kernel
theorem dL_law_687 : decode cL_law 687 = .ok (.aload_n 0, 1) := by decide +kernel
theorem dL_law_688 : decode cL_law 688 = .ok (.iload_n 3, 1) := by decide +kernel
theorem dL_law_689 : decode cL_law 689 = .ok (.iconst 1, 1) := by decide +kernel
theorem dL_law_690 : decode cL_law 690 = .ok (.iadd, 1) := by decide +kernel
theorem dL_law_691 : decode cL_law 691 = .ok (.iaload, 1) := by decide +kernel
theorem dL_law_692 : decode cL_law 692 = .ok (.invokevirtual 71, 3) := by decide +kernel
theorem dL_law_695 : decode cL_law 695 = .ok (.aload_n 2, 1) := by decide +kernel
theorem dL_law_696 : decode cL_law 696 = .ok (.aload_n 0, 1) := by decide +kernel
theorem dL_law_697 : decode cL_law 697 = .ok (.iload_n 3, 1) := by decide +kernel
theorem dL_law_698 : decode cL_law 698 = .ok (.iconst 1, 1) := by decide +kernel
theorem dL_law_699 : decode cL_law 699 = .ok (.iadd, 1) := by decide +kernel
theorem dL_law_700 : decode cL_law 700 = .ok (.iaload, 1) := by decide +kernel
theorem dL_law_701 : decode cL_law 701 = .ok (.invokevirtual 74, 3) := by decide +kernel
theorem dL_law_704 : decode cL_law 704 = .ok (.if_icmp .eq 198, 3) := by decide +kernel
theorem dL_law_707 : decode cL_law 707 = .ok (.iconst 0, 1) := by decide +kernel
theorem dL_law_708 : decode cL_law 708 = .ok (.ireturn, 1) := by decide +kernel
theorem dL_law_709 : decode cL_law 709 = .ok (.aload_n 1, 1) := by decide +kernel
theorem dL_law_710 : decode cL_law 710 = .ok (.aload_n 0, 1) := by decide +kernel
theorem dL_law_711 : decode cL_law 711 = .ok (.iload_n 3, 1) := by decide +kernel
theorem dL_law_712 : decode cL_law 712 = .ok (.iconst 1, 1) := by decide +kernel
theorem dL_law_713 : decode cL_law 713 = .ok (.iadd, 1) := by decide +kernel
theorem dL_law_714 : decode cL_law 714 = .ok (.iaload, 1) := by decide +kernel
theorem dL_law_715 : decode cL_law 715 = .ok (.invokevirtual 75, 3) := by decide +kernel
theorem dL_law_718 : decode cL_law 718 = .ok (.aload_n 2, 1) := by decide +kernel
theorem dL_law_719 : decode cL_law 719 = .ok (.aload_n 0, 1) := by decide +kernel
theorem dL_law_720 : decode cL_law 720 = .ok (.iload_n 3, 1) := by decide +kernel
theorem dL_law_721 : decode cL_law 721 = .ok (.iconst 1, 1) := by decide +kernel
theorem dL_law_722 : decode cL_law 722 = .ok (.iadd, 1) := by decide +kernel
theorem dL_law_723 : decode cL_law 723 = .ok (.iaload, 1) := by decide +kernel
theorem dL_law_724 : decode cL_law 724 = .ok (.invokevirtual 78, 3) := by decide +kernel
theorem dL_law_727 : decode cL_law 727 = .ok (.if_icmp .eq 175, 3) := by decide +kernel
theorem dL_law_730 : decode cL_law 730 = .ok (.iconst 0, 1) := by decide +kernel
theorem dL_law_731 : decode cL_law 731 = .ok (.ireturn, 1) := by decide +kernel
theorem dL_law_732 : decode cL_law 732 = .ok (.aload_n 1, 1) := by decide +kernel
theorem dL_law_733 : decode cL_law 733 = .ok (.aload_n 0, 1) := by decide +kernel
theorem dL_law_734 : decode cL_law 734 = .ok (.iload_n 3, 1) := by decide +kernel
theorem dL_law_735 : decode cL_law 735 = .ok (.iconst 1, 1) := by decide +kernel
theorem dL_law_736 : decode cL_law 736 = .ok (.iadd, 1) := by decide +kernel
theorem dL_law_737 : decode cL_law 737 = .ok (.iaload, 1) := by decide +kernel
theorem dL_law_738 : decode cL_law 738 = .ok (.aload_n 0, 1) := by decide +kernel
theorem dL_law_739 : decode cL_law 739 = .ok (.iload_n 3, 1) := by decide +kernel
theorem dL_law_740 : decode cL_law 740 = .ok (.iconst 2, 1) := by decide +kernel
theorem dL_law_741 : decode cL_law 741 = .ok (.iadd, 1) := by decide +kernel
theorem dL_law_742 : decode cL_law 742 = .ok (.iaload, 1) := by decide +kernel
theorem dL_law_743 : decode cL_law 743 = .ok (.invokevirtual 79, 3) := by decide +kernel
theorem dL_law_746 : decode cL_law 746 = .ok (.aload_n 2, 1) := by decide +kernel
theorem dL_law_747 : decode cL_law 747 = .ok (.aload_n 0, 1) := by decide +kernel
theorem dL_law_748 : decode cL_law 748 = .ok (.iload_n 3, 1) := by decide +kernel
theorem dL_law_749 : decode cL_law 749 = .ok (.iconst 1, 1) := by decide +kernel
theorem dL_law_750 : decode cL_law 750 = .ok (.iadd, 1) := by decide +kernel
theorem dL_law_751 : decode cL_law 751 = .ok (.iaload, 1) := by decide +kernel
theorem dL_law_752 : decode cL_law 752 = .ok (.aload_n 0, 1) := by decide +kernel
theorem dL_law_753 : decode cL_law 753 = .ok (.iload_n 3, 1) := by decide +kernel
theorem dL_law_754 : decode cL_law 754 = .ok (.iconst 2, 1) := by decide +kernel
theorem dL_law_755 : decode cL_law 755 = .ok (.iadd, 1) := by decide +kernel
theorem dL_law_756 : decode cL_law 756 = .ok (.iaload, 1) := by decide +kernel
theorem dL_law_757 : decode cL_law 757 = .ok (.invokevirtual 83, 3) := by decide +kernel
theorem dL_law_760 : decode cL_law 760 = .ok (.if_icmp .eq 142, 3) := by decide +kernel
theorem dL_law_763 : decode cL_law 763 = .ok (.iconst 0, 1) := by decide +kernel
theorem dL_law_764 : decode cL_law 764 = .ok (.ireturn, 1) := by decide +kernel
theorem dL_law_765 : decode cL_law 765 = .ok (.aload_n 1, 1) := by decide +kernel
theorem dL_law_766 : decode cL_law 766 = .ok (.aload_n 0, 1) := by decide +kernel
theorem dL_law_767 : decode cL_law 767 = .ok (.iload_n 3, 1) := by decide +kernel
theorem dL_law_768 : decode cL_law 768 = .ok (.iconst 1, 1) := by decide +kernel
theorem dL_law_769 : decode cL_law 769 = .ok (.iadd, 1) := by decide +kernel
theorem dL_law_770 : decode cL_law 770 = .ok (.iaload, 1) := by decide +kernel
theorem dL_law_771 : decode cL_law 771 = .ok (.invokevirtual 84, 3) := by decide +kernel
theorem dL_law_774 : decode cL_law 774 = .ok (.aload_n 2, 1) := by decide +kernel
theorem dL_law_775 : decode cL_law 775 = .ok (.aload_n 0, 1) := by decide +kernel
theorem dL_law_776 : decode cL_law 776 = .ok (.iload_n 3, 1) := by decide +kernel
theorem dL_law_777 : decode cL_law 777 = .ok (.iconst 1, 1) := by decide +kernel
theorem dL_law_778 : decode cL_law 778 = .ok (.iadd, 1) := by decide +kernel
theorem dL_law_779 : decode cL_law 779 = .ok (.iaload, 1) := by decide +kernel
theorem dL_law_780 : decode cL_law 780 = .ok (.invokevirtual 88, 3) := by decide +kernel
theorem dL_law_783 : decode cL_law 783 = .ok (.lcmp, 1) := by decide +kernel
theorem dL_law_784 : decode cL_law 784 = .ok (.ifCond .eq 118, 3) := by decide +kernel
theorem dL_law_787 : decode cL_law 787 = .ok (.iconst 0, 1) := by decide +kernel
theorem dL_law_788 : decode cL_law 788 = .ok (.ireturn, 1) := by decide +kernel
theorem dL_law_789 : decode cL_law 789 = .ok (.aload_n 1, 1) := by decide +kernel
theorem dL_law_790 : decode cL_law 790 = .ok (.aload_n 0, 1) := by decide +kernel
theorem dL_law_791 : decode cL_law 791 = .ok (.iload_n 3, 1) := by decide +kernel
theorem dL_law_792 : decode cL_law 792 = .ok (.iconst 1, 1) := by decide +kernel
theorem dL_law_793 : decode cL_law 793 = .ok (.iadd, 1) := by decide +kernel
theorem dL_law_794 : decode cL_law 794 = .ok (.iaload, 1) := by decide +kernel
theorem dL_law_795 : decode cL_law 795 = .ok (.aload_n 0, 1) := by decide +kernel
theorem dL_law_796 : decode cL_law 796 = .ok (.iload_n 3, 1) := by decide +kernel
theorem dL_law_797 : decode cL_law 797 = .ok (.iconst 2, 1) := by decide +kernel
theorem dL_law_798 : decode cL_law 798 = .ok (.iadd, 1) := by decide +kernel
theorem dL_law_799 : decode cL_law 799 = .ok (.iaload, 1) := by decide +kernel
theorem dL_law_800 : decode cL_law 800 = .ok (.invokevirtual 89, 3) := by decide +kernel
theorem dL_law_803 : decode cL_law 803 = .ok (.aload_n 2, 1) := by decide +kernel
theorem dL_law_804 : decode cL_law 804 = .ok (.aload_n 0, 1) := by decide +kernel
theorem dL_law_805 : decode cL_law 805 = .ok (.iload_n 3, 1) := by decide +kernel
theorem dL_law_806 : decode cL_law 806 = .ok (.iconst 1, 1) := by decide +kernel
theorem dL_law_807 : decode cL_law 807 = .ok (.iadd, 1) := by decide +kernel
theorem dL_law_808 : decode cL_law 808 = .ok (.iaload, 1) := by decide +kernel
theorem dL_law_809 : decode cL_law 809 = .ok (.aload_n 0, 1) := by decide +kernel
theorem dL_law_810 : decode cL_law 810 = .ok (.iload_n 3, 1) := by decide +kernel
theorem dL_law_811 : decode cL_law 811 = .ok (.iconst 2, 1) := by decide +kernel
theorem dL_law_812 : decode cL_law 812 = .ok (.iadd, 1) := by decide +kernel
theorem dL_law_813 : decode cL_law 813 = .ok (.iaload, 1) := by decide +kernel
theorem dL_law_814 : decode cL_law 814 = .ok (.invokevirtual 93, 3) := by decide +kernel
theorem dL_law_817 : decode cL_law 817 = .ok (.lcmp, 1) := by decide +kernel
theorem dL_law_818 : decode cL_law 818 = .ok (.ifCond .eq 84, 3) := by decide +kernel
theorem dL_law_821 : decode cL_law 821 = .ok (.iconst 0, 1) := by decide +kernel
theorem dL_law_822 : decode cL_law 822 = .ok (.ireturn, 1) := by decide +kernel
theorem dL_law_823 : decode cL_law 823 = .ok (.aload_n 1, 1) := by decide +kernel
theorem dL_law_824 : decode cL_law 824 = .ok (.aload_n 0, 1) := by decide +kernel
theorem dL_law_825 : decode cL_law 825 = .ok (.iload_n 3, 1) := by decide +kernel
theorem dL_law_826 : decode cL_law 826 = .ok (.iconst 1, 1) := by decide +kernel
theorem dL_law_827 : decode cL_law 827 = .ok (.iadd, 1) := by decide +kernel
theorem dL_law_828 : decode cL_law 828 = .ok (.iaload, 1) := by decide +kernel
theorem dL_law_829 : decode cL_law 829 = .ok (.aload_n 0, 1) := by decide +kernel
theorem dL_law_830 : decode cL_law 830 = .ok (.iload_n 3, 1) := by decide +kernel
theorem dL_law_831 : decode cL_law 831 = .ok (.iconst 2, 1) := by decide +kernel
theorem dL_law_832 : decode cL_law 832 = .ok (.iadd, 1) := by decide +kernel
theorem dL_law_833 : decode cL_law 833 = .ok (.iaload, 1) := by decide +kernel
theorem dL_law_834 : decode cL_law 834 = .ok (.invokevirtual 94, 3) := by decide +kernel
theorem dL_law_837 : decode cL_law 837 = .ok (.aload_n 2, 1) := by decide +kernel
theorem dL_law_838 : decode cL_law 838 = .ok (.aload_n 0, 1) := by decide +kernel
theorem dL_law_839 : decode cL_law 839 = .ok (.iload_n 3, 1) := by decide +kernel
theorem dL_law_840 : decode cL_law 840 = .ok (.iconst 1, 1) := by decide +kernel
theorem dL_law_841 : decode cL_law 841 = .ok (.iadd, 1) := by decide +kernel
theorem dL_law_842 : decode cL_law 842 = .ok (.iaload, 1) := by decide +kernel
theorem dL_law_843 : decode cL_law 843 = .ok (.aload_n 0, 1) := by decide +kernel
theorem dL_law_844 : decode cL_law 844 = .ok (.iload_n 3, 1) := by decide +kernel
theorem dL_law_845 : decode cL_law 845 = .ok (.iconst 2, 1) := by decide +kernel
theorem dL_law_846 : decode cL_law 846 = .ok (.iadd, 1) := by decide +kernel
theorem dL_law_847 : decode cL_law 847 = .ok (.iaload, 1) := by decide +kernel
theorem dL_law_848 : decode cL_law 848 = .ok (.invokevirtual 97, 3) := by decide +kernel
theorem dL_law_851 : decode cL_law 851 = .ok (.if_icmp .eq 51, 3) := by decide +kernel
theorem dL_law_854 : decode cL_law 854 = .ok (.iconst 0, 1) := by decide +kernel
theorem dL_law_855 : decode cL_law 855 = .ok (.ireturn, 1) := by decide +kernel
theorem dL_law_856 : decode cL_law 856 = .ok (.aload_n 1, 1) := by decide +kernel
theorem dL_law_857 : decode cL_law 857 = .ok (.aload_n 0, 1) := by decide +kernel
theorem dL_law_858 : decode cL_law 858 = .ok (.iload_n 3, 1) := by decide +kernel
theorem dL_law_859 : decode cL_law 859 = .ok (.iconst 1, 1) := by decide +kernel
theorem dL_law_860 : decode cL_law 860 = .ok (.iadd, 1) := by decide +kernel
theorem dL_law_861 : decode cL_law 861 = .ok (.iaload, 1) := by decide +kernel
theorem dL_law_862 : decode cL_law 862 = .ok (.aload_n 0, 1) := by decide +kernel
theorem dL_law_863 : decode cL_law 863 = .ok (.iload_n 3, 1) := by decide +kernel
theorem dL_law_864 : decode cL_law 864 = .ok (.iconst 2, 1) := by decide +kernel
theorem dL_law_865 : decode cL_law 865 = .ok (.iadd, 1) := by decide +kernel
theorem dL_law_866 : decode cL_law 866 = .ok (.iaload, 1) := by decide +kernel
theorem dL_law_867 : decode cL_law 867 = .ok (.invokevirtual 98, 3) := by decide +kernel
theorem dL_law_870 : decode cL_law 870 = .ok (.aload_n 2, 1) := by decide +kernel
theorem dL_law_871 : decode cL_law 871 = .ok (.aload_n 0, 1) := by decide +kernel
theorem dL_law_872 : decode cL_law 872 = .ok (.iload_n 3, 1) := by decide +kernel
theorem dL_law_873 : decode cL_law 873 = .ok (.iconst 1, 1) := by decide +kernel
theorem dL_law_874 : decode cL_law 874 = .ok (.iadd, 1) := by decide +kernel
theorem dL_law_875 : decode cL_law 875 = .ok (.iaload, 1) := by decide +kernel
theorem dL_law_876 : decode cL_law 876 = .ok (.aload_n 0, 1) := by decide +kernel
theorem dL_law_877 : decode cL_law 877 = .ok (.iload_n 3, 1) := by decide +kernel
theorem dL_law_878 : decode cL_law 878 = .ok (.iconst 2, 1) := by decide +kernel
theorem dL_law_879 : decode cL_law 879 = .ok (.iadd, 1) := by decide +kernel
theorem dL_law_880 : decode cL_law 880 = .ok (.iaload, 1) := by decide +kernel
theorem dL_law_881 : decode cL_law 881 = .ok (.invokevirtual 101, 3) := by decide +kernel
theorem dL_law_884 : decode cL_law 884 = .ok (.if_icmp .eq 18, 3) := by decide +kernel
theorem dL_law_887 : decode cL_law 887 = .ok (.iconst 0, 1) := by decide +kernel
theorem dL_law_888 : decode cL_law 888 = .ok (.ireturn, 1) := by decide +kernel
theorem dL_law_889 : decode cL_law 889 = .ok (.aload_n 1, 1) := by decide +kernel
theorem dL_law_890 : decode cL_law 890 = .ok (.invokevirtual 102, 3) := by decide +kernel
theorem dL_law_893 : decode cL_law 893 = .ok (.aload_n 2, 1) := by decide +kernel
theorem dL_law_894 : decode cL_law 894 = .ok (.invokevirtual 106, 3) := by decide +kernel
theorem dL_law_897 : decode cL_law 897 = .ok (.if_icmp .eq 5, 3) := by decide +kernel
theorem dL_law_900 : decode cL_law 900 = .ok (.iconst 0, 1) := by decide +kernel
theorem dL_law_901 : decode cL_law 901 = .ok (.ireturn, 1) := by decide +kernel
theorem dL_law_902 : decode cL_law 902 = .ok (.iinc 3 7, 3) := by decide +kernel
theorem dL_law_905 : decode cL_law 905 = .ok (.goto (-887), 3) := by decide +kernel
theorem dL_law_908 : decode cL_law 908 = .ok (.iconst 1, 1) := by decide +kernel
theorem dL_law_909 : decode cL_law 909 = .ok (.ireturn, 1) := by decide +kernel
end
section
/-! what the rows take as fixed -/
def xs_ty : List FieldType := [.int, .long, .boolean, .object "CardPayments$Message", .object "java/lang/Object"]
def xs_st : List (String × String × String) := [("CardPayments", "FIELDS", "[I"), ("CardPayments", "LENGTHS", "[I"), ("java/util/ArrayList", "DEFAULTCAPACITY_EMPTY_ELEMENTDATA", "[Ljava/lang/Object;")]
def xs_F : List Int32 := [0, 16, 262, 512, 64, 184, 452, 2430, 3334, 1280, 384, 2430]
def xs_L : List Int32 := [0, 1, 2, 5, 4, 1, 1, 1, 4, 2, 1, 4]
def xs_ro : List (Nat × FieldType × Nat × (Nat → Value)) := [(0, .int, 12, fun j => .int (xs_F.getD j 0)), (1, .int, 12, fun j => .int (xs_L.getD j 0)), (2, .object "java/lang/Object", 0, fun _ => .null)]
def xs_mi : List String := ["[Ljava/lang/Object;"]
def xs_ao : List String := ["CardPayments$Message", "java/lang/Object"]
def xs_nw : List Cond := [.methodLinkNest "CardPayments" 9 ⟨"CardPayments$World", "<init>", "()V"⟩ "CardPayments", .methodLinkNest "CardPayments$World" 11 ⟨"CardPayments$Wires", "<init>", "()V"⟩ "CardPayments", .methodLinkNest "CardPayments$World" 20 ⟨"CardPayments$Seals", "<init>", "()V"⟩ "CardPayments", .methodLinkNest "CardPayments$World" 43 ⟨"CardPayments$Content", "<init>", "()V"⟩ "CardPayments", .methodLinkNest "CardPayments$Card" 20 ⟨"CardPayments$Payment", "<init>", "()V"⟩ "CardPayments", .methodLinkNest "CardPayments$Terminal" 24 ⟨"CardPayments$Payment", "<init>", "()V"⟩ "CardPayments", .methodLinkNest "CardPayments$Wires" 21 ⟨"CardPayments$Message", "<init>", "()V"⟩ "CardPayments", .fieldLinkNest "CardPayments$Message" 68 "CardPayments" "FIELDS" "[I" "CardPayments", .fieldLinkNest "CardPayments$Message" 48 "CardPayments" "LENGTHS" "[I" "CardPayments", .methodLinkNest "CardPayments$Host" 124 ⟨"CardPayments$Payment", "<init>", "()V"⟩ "CardPayments", .castable "[J" "java/lang/Cloneable", .declares ⟨"java/lang/Object", "getClass", "()Ljava/lang/Class;"⟩, .castable "CardPayments" "java/lang/Object", .castable "CardPayments$World" "java/lang/Object", .castable "CardPayments$Wires" "java/lang/Object", .castable "CardPayments$Seals" "java/lang/Object", .castable "CardPayments$Content" "java/lang/Object", .castable "CardPayments$Host" "java/lang/Object", .castable "CardPaymentsModel" "java/lang/Object", .castable "CardPayments$Card" "java/lang/Object", .castable "CardPayments$Payment" "java/lang/Object", .castable "CardPayments$Account" "java/lang/Object", .castable "CardPayments$Terminal" "java/lang/Object", .castable "CardPayments$Message" "java/lang/Object", .castable "CardPayments$Seal" "java/lang/Object"]
theorem xs_nw_on : ∀ w ∈ xs_nw, w.onTables = true := by decide +kernel
theorem xs_nw_warm : ∀ w ∈ xs_nw, ∀ {s U : State}, s.WarmedH U.vm → va_Nw w s → va_Nw w U := by
  intro w hw s U hW hz
  simp only [xs_nw, List.mem_cons, List.not_mem_nil, or_false] at hw
  rcases hw with rfl | rfl | rfl | rfl | rfl | rfl | rfl | rfl | rfl | rfl | rfl | rfl | rfl | rfl | rfl | rfl | rfl | rfl | rfl | rfl | rfl | rfl | rfl | rfl | rfl
  · exact va_Nw.warmM hW hz
  · exact va_Nw.warmM hW hz
  · exact va_Nw.warmM hW hz
  · exact va_Nw.warmM hW hz
  · exact va_Nw.warmM hW hz
  · exact va_Nw.warmM hW hz
  · exact va_Nw.warmM hW hz
  · exact va_Nw.warmF hW hz
  · exact va_Nw.warmF hW hz
  · exact va_Nw.warmM hW hz
  · exact va_Nw.warmC hW hz
  · exact va_Nw.warmD hW hz
  · exact va_Nw.warmC hW hz
  · exact va_Nw.warmC hW hz
  · exact va_Nw.warmC hW hz
  · exact va_Nw.warmC hW hz
  · exact va_Nw.warmC hW hz
  · exact va_Nw.warmC hW hz
  · exact va_Nw.warmC hW hz
  · exact va_Nw.warmC hW hz
  · exact va_Nw.warmC hW hz
  · exact va_Nw.warmC hW hz
  · exact va_Nw.warmC hW hz
  · exact va_Nw.warmC hW hz
  · exact va_Nw.warmC hW hz
def xw_tbl : List Cond := lw_tbl.filter goodWord
theorem xw_good : ∀ w ∈ xw_tbl, (w.onTables && w.keeps) = true ∨ ∃ ty, w = .arrayClass ty := fun w hw => good_of_word (List.mem_filter.mp hw).2
theorem xw_at {w : Cond} (i : Nat) (h : tables_1[i]? = some w) (g : goodWord w = true) : w ∈ xw_tbl := List.mem_filter.mpr ⟨List.mem_append_right _ (List.mem_of_getElem? h), g⟩
theorem xw_sel {q : MethodName × Nat} (i : Nat) (h : lw_privs[i]? = some q) : Cond.selects q.1.cls q.1 q.1 ∈ xw_tbl := List.mem_filter.mpr ⟨List.mem_append_left _ (List.mem_map.mpr ⟨q, List.mem_of_getElem? h, rfl⟩), rfl⟩
end
section
/-! A picture of the whole heap of a system, and the machine over it. Hp: which addresses, and what lies at each. XW: the machine comes to Q from every heap that holds the picture h, with kc cells and ks slots still to spend. -/
abbrev Hp : Type := List Nat × (Nat → va_E)
/-- what is fixed for all: the classes of the arrays, the addresses of constant statics, those of class objects -/
abbrev Ev : Type := (Nat → ClassId) × (Nat → Nat) × (Nat → Nat)
def xh_set (h : Hp) (a : Nat) (e : va_E) : Hp := (h.1, va_up h.2 a e)
def xh_new (h : Hp) (a : Nat) (e : va_E) : Hp := (h.1 ++ [a], va_up h.2 a e)
/-- an object or array of the picture -/
def xh_at (h : Hp) (a : Nat) (e : va_E) : Prop := a ∈ h.1 ∧ h.2 a = e
def xv_put1 (lv : List (Nat × Value)) (i : Nat) (v : Value) : List (Nat × Value) := (i, v) :: lv.filter (fun q => !(q.1 == i) && !(q.1 + 1 == i && q.2.category == 2))
def xv_put2 (lv : List (Nat × Value)) (i : Nat) (v : Value) : List (Nat × Value) := (i, v) :: lv.filter (fun q => !(q.1 == i) && (!(q.1 == i + 1) && !(q.1 + 1 == i && q.2.category == 2)))
theorem xv_cat (r : Option Nat) : (va_rf r).category = 1 := by cases r <;> rfl
def xe_tyl (E : Ev) : List (ClassId × FieldType) := (List.range xs_ty.length).map (fun i => (E.1 i, xs_ty.getD i .int))
theorem xe_ty_at {E : Ev} (i : Nat) {ty : FieldType} (h : xs_ty[i]? = some ty) : (xe_tyl E)[i]? = some (E.1 i, ty) := by
  have hl : i < xs_ty.length := (List.getElem?_eq_some_iff.mp h).1
  simp only [xe_tyl, List.getElem?_map, List.getElem?_range hl, Option.map_some, List.getD_eq_getElem?_getD, h, Option.getD_some]
/-- the constant statics, the class objects, the tables of arrays over classes -/
def xe_S (E : Ev) (A : Nat → Prop) (U : State) (H : Heap) : Prop :=
  (∀ (i : Nat) (q : String × String × String), xs_st[i]? = some q → va_Z q.1 q.2.1 q.2.2 (.ref (E.2.1 i)) A U H) ∧
  (∀ (i : Nat) (q : Nat × FieldType × Nat × (Nat → Value)), xs_ro[i]? = some q → va_T q.2.1 (E.2.1 q.1) q.2.2.1 q.2.2.2 A U H) ∧
  (∀ (i : Nat) (q : String), xs_mi[i]? = some q → va_Mi q (E.2.2 i) U) ∧
  (∀ q ∈ xs_ao, va_AO q U) ∧ (∀ w ∈ xs_nw, va_Nw w U)
theorem xe_S.narrow {E : Ev} {A B : Nat → Prop} {U : State} {H : Heap} (h : xe_S E A U H) (hAB : ∀ q, B q → A q) : xe_S E B U H :=
  ⟨fun i q hq => (h.1 i q hq).narrow hAB, fun i q hq => (h.2.1 i q hq).narrow hAB, h.2.2⟩
theorem xe_S.kept {E : Ev} {A : Nat → Prop} {U : State} {H H1 : Heap} (h : xe_S E A U H) (hq : ∀ a : Nat, a < H.size → ¬ A a → H1[a]? = H[a]?) : xe_S E A U H1 :=
  ⟨fun i q hi => (h.1 i q hi).kept hq, fun i q hi => (h.2.1 i q hi).kept hq, h.2.2⟩
theorem xe_S.warm {E : Ev} {A : Nat → Prop} {u U : State} {H : Heap} (hW : u.WarmedH U.vm) (hn : ∀ w ∈ xs_nw, va_Nw w u → va_Nw w U) (h : xe_S E A u H) : xe_S E A U H :=
  ⟨fun i q hi => (h.1 i q hi).moved hW.alike, fun i q hi => (h.2.1 i q hi).moved hW.alike, fun i q hi => (h.2.2.1 i q hi).moved hW.alike, fun q hq => (h.2.2.2.1 q hq).moved hW.alike, fun w hw => hn w hw (h.2.2.2.2 w hw)⟩
theorem xe_S.same {E : Ev} {A : Nat → Prop} {u U : State} {H : Heap} (hvm : u.vm = U.vm) (hn : ∀ w ∈ xs_nw, w.onTables = true) (h : xe_S E A u H) : xe_S E A U H :=
  have ha : u.vm.Alike U.vm := by rw [hvm]; exact Vm.Alike.refl _
  ⟨fun i q hi => (h.1 i q hi).moved ha, fun i q hi => (h.2.1 i q hi).moved ha, fun i q hi => (h.2.2.1 i q hi).moved ha, fun q hq => (h.2.2.2.1 q hq).moved ha, fun w hw => va_Nw.same (hn w hw) hvm (h.2.2.2.2 w hw)⟩
def XC (p : Program) (R : Room) (s : State) (m : MethodId) (args : Array Value) (c : Code) (D : va_G) (E : Ev) (A : Nat → Prop) (nL : Nat) (own : String) (cc : ByteArray) (KC KS : Nat) : Prop :=
  (p.tables.exec = Jvm.exec ∧ c.code = cc) ∧ (c.maxLocals = nL ∧ s.vm.findClass own = some m.cls) ∧ (∀ w ∈ xw_tbl, w.before args s = true) ∧ va_K D vwCl (xe_tyl E) s ∧ ((∀ q, s.heap.size ≤ q → A q) ∧ xe_S E A s s.heap) ∧ (R.cells = KC ∧ R.slots = KS)
def XW (p : Program) (l : Launch) (e : Env) (R : Room) (s : State) (m : MethodId) (args : Array Value) (below : List Frame) (meth : Method) (c : Code) (Q : State → Prop) (D : va_G) (A : Nat → Prop) (KC KS nL : Nat) (h : Hp) (kc ks : Nat) (lv : List (Nat × Value)) (pc : Nat) (st : List Value) : Prop :=
  ∀ (H : Heap) (locs : List Loc) (cells slots : Nat) (ls : Array Slot), va_P D vwCl (va_pl h.1 h.2) H → va_D A (va_pl h.1 h.2) → va_S A s.heap H locs → cells + kc = KC → slots + ks = KS → lv_has ls nL lv → W p l e R s m args below meth c H locs cells slots Q (F0 m pc ls st)
/-- a method's start and its end, in pictures -/
def XPre (D : va_G) (E : Ev) (h : Hp) (sz : Nat) (U : State) : Prop := U.heap.size = sz ∧ va_P D vwCl (va_pl h.1 h.2) U.heap ∧ va_K D vwCl (xe_tyl E) U ∧ va_D (fun _ => True) (va_pl h.1 h.2) ∧ xe_S E (va_A (va_pl h.1 h.2) sz) U U.heap
def XPost (D : va_G) (A : Nat → Prop) (h : Hp) (t : State) : Prop := va_P D vwCl (va_pl h.1 h.2) t.heap ∧ va_D A (va_pl h.1 h.2)
abbrev XA (h : Hp) (sz : Nat) : Nat → Prop := va_A (va_pl h.1 h.2) sz
theorem xh_get {h : Hp} {a : Nat} {e : va_E} (ha : xh_at h a e) : ∃ k : Nat, (va_pl h.1 h.2)[k]? = some (a, e) := by
  obtain ⟨k, hk⟩ := va_pl_get (X := []) (f := h.2) ha.1
  exact ⟨k, by rw [← ha.2]; exact hk⟩
theorem xh_put {h : Hp} {A : Nat → Prop} {a k : Nat} {e e' : va_E} (hD : va_D A (va_pl h.1 h.2)) (ha : xh_at h a e) (hk : (va_pl h.1 h.2)[k]? = some (a, e)) : (va_pl h.1 h.2).set k (a, e') = va_pl (xh_set h a e').1 (xh_set h a e').2 :=
  va_pl_set (X := []) hD ha.1 (by rw [ha.2]; exact hk)
theorem xh_push {h : Hp} {D : va_G} {A : Nat → Prop} {a : Nat} {e : va_E} {H1 : Heap} (hD : va_D A (va_pl h.1 h.2 ++ [(a, e)])) : a ∉ h.1 ∧ va_pl h.1 h.2 ++ [(a, e)] = va_pl (xh_new h a e).1 (xh_new h a e).2 := by
  have hn : a ∉ h.1 := by
    intro hm
    obtain ⟨k, hk⟩ := va_pl_get (X := []) (f := h.2) hm
    have hl : k < (va_pl h.1 h.2).length := (List.getElem?_eq_some_iff.mp hk).1
    have h1 : (va_pl h.1 h.2 ++ [(a, e)])[k]? = some (a, h.2 a) := by
      rw [List.getElem?_append_left hl]; exact hk
    have h2 : (va_pl h.1 h.2 ++ [(a, e)])[(va_pl h.1 h.2).length]? = some (a, e) := by
      rw [List.getElem?_append_right (Nat.le_refl _), Nat.sub_self]; rfl
    have := hD.1 _ _ _ _ h1 h2 rfl
    omega
  exact ⟨hn, va_pl_push hn⟩

section XR
variable {p : Program} {l : Launch} {e : Env} {R : Room} {s : State} {m : MethodId} {args : Array Value} {below : List Frame} {meth : Method} {c : Code} {Q : State → Prop} {D : va_G} {E : Ev} {A : Nat → Prop} {KC KS nL : Nat} {own : String} {cc : ByteArray} {h : Hp} {kc ks : Nat} {lv : List (Nat × Value)} {pc : Nat} {st : List Value}
theorem xr_iconst (C : XC p R s m args c D E A nL own cc KC KS) {n : Int} {v : Int32} (d : decode cc pc = .ok (.iconst n, 1)) (hv : Int32.ofInt n = v) (k : XW p l e R s m args below meth c Q D A KC KS nL h kc ks lv (pc + 1) (.int v :: st)) : XW p l e R s m args below meth c Q D A KC KS nL h kc ks lv pc (st) := fun H locs cells slots ls hP hD hS hc hs hl => lv_iconst C.1.1 C.1.2 d hv (k H locs cells slots ls hP hD hS hc hs hl)
theorem xr_bipush (C : XC p R s m args c D E A nL own cc KC KS) {n : Int} {v : Int32} (d : decode cc pc = .ok (.bipush n, 2)) (hv : (Int8.ofInt n).toInt32 = v) (k : XW p l e R s m args below meth c Q D A KC KS nL h kc ks lv (pc + 2) (.int v :: st)) : XW p l e R s m args below meth c Q D A KC KS nL h kc ks lv pc (st) := fun H locs cells slots ls hP hD hS hc hs hl => lv_bipush C.1.1 C.1.2 d hv (k H locs cells slots ls hP hD hS hc hs hl)
theorem xr_sipush (C : XC p R s m args c D E A nL own cc KC KS) {n : Int} {v : Int32} (d : decode cc pc = .ok (.sipush n, 3)) (hv : (Int16.ofInt n).toInt32 = v) (k : XW p l e R s m args below meth c Q D A KC KS nL h kc ks lv (pc + 3) (.int v :: st)) : XW p l e R s m args below meth c Q D A KC KS nL h kc ks lv pc (st) := fun H locs cells slots ls hP hD hS hc hs hl => lv_sipush C.1.1 C.1.2 d hv (k H locs cells slots ls hP hD hS hc hs hl)
theorem xr_lconst (C : XC p R s m args c D E A nL own cc KC KS) {n : Fin 2} {v : Int64} (d : decode cc pc = .ok (.lconst n, 1)) (hv : Int64.ofNat (n : Nat) = v) (k : XW p l e R s m args below meth c Q D A KC KS nL h kc ks lv (pc + 1) (.long v :: st)) : XW p l e R s m args below meth c Q D A KC KS nL h kc ks lv pc (st) := fun H locs cells slots ls hP hD hS hc hs hl => lv_lconst C.1.1 C.1.2 d hv (k H locs cells slots ls hP hD hS hc hs hl)
theorem xr_null (C : XC p R s m args c D E A nL own cc KC KS)  (d : decode cc pc = .ok (.aconst_null, 1))  (k : XW p l e R s m args below meth c Q D A KC KS nL h kc ks lv (pc + 1) (.null :: st)) : XW p l e R s m args below meth c Q D A KC KS nL h kc ks lv pc (st) := fun H locs cells slots ls hP hD hS hc hs hl => lv_null C.1.1 C.1.2 d  (k H locs cells slots ls hP hD hS hc hs hl)
theorem xr_ldc (C : XC p R s m args c D E A nL own cc KC KS) {idx : Nat} {v : Int32} (d : decode cc pc = .ok (.ldc idx, 2)) (hw : Cond.constant own idx v ∈ xw_tbl) (k : XW p l e R s m args below meth c Q D A KC KS nL h kc ks lv (pc + 2) (.int v :: st)) : XW p l e R s m args below meth c Q D A KC KS nL h kc ks lv pc st := fun H locs cells slots ls hP hD hS hc hs hl => lv_ldc C.1.1 C.1.2 C.2.1.2 (C.2.2.1 _ hw) d (k H locs cells slots ls hP hD hS hc hs hl)
theorem xr_ldcw (C : XC p R s m args c D E A nL own cc KC KS) {idx : Nat} {v : Int32} (d : decode cc pc = .ok (.ldc_w idx, 3)) (hw : Cond.constant own idx v ∈ xw_tbl) (k : XW p l e R s m args below meth c Q D A KC KS nL h kc ks lv (pc + 3) (.int v :: st)) : XW p l e R s m args below meth c Q D A KC KS nL h kc ks lv pc st := fun H locs cells slots ls hP hD hS hc hs hl => lv_ldcw C.1.1 C.1.2 C.2.1.2 (C.2.2.1 _ hw) d (k H locs cells slots ls hP hD hS hc hs hl)
theorem xr_ldc2 (C : XC p R s m args c D E A nL own cc KC KS) {idx : Nat} {v : Int64} (d : decode cc pc = .ok (.ldc2_w idx, 3)) (hw : Cond.constantLong own idx v ∈ xw_tbl) (k : XW p l e R s m args below meth c Q D A KC KS nL h kc ks lv (pc + 3) (.long v :: st)) : XW p l e R s m args below meth c Q D A KC KS nL h kc ks lv pc st := fun H locs cells slots ls hP hD hS hc hs hl => lv_ldc2 C.1.1 C.1.2 C.2.1.2 (C.2.2.1 _ hw) d (k H locs cells slots ls hP hD hS hc hs hl)
theorem xr_iload_n (C : XC p R s m args c D E A nL own cc KC KS) {k0 : Fin 4} {x : Int32} (d : decode cc pc = .ok (.iload_n k0, 1)) (j : Nat) (hj : lv[j]? = some ((k0 : Nat), .int x)) (k : XW p l e R s m args below meth c Q D A KC KS nL h kc ks lv (pc + 1) (.int x :: st)) : XW p l e R s m args below meth c Q D A KC KS nL h kc ks lv pc st := fun H locs cells slots ls hP hD hS hc hs hl => lv_iload_n C.1.1 C.1.2 d rfl (lv_at hl j hj) (k H locs cells slots ls hP hD hS hc hs hl)
theorem xr_iload (C : XC p R s m args c D E A nL own cc KC KS) {i : Nat} {x : Int32} (d : decode cc pc = .ok (.iload i, 2)) (j : Nat) (hj : lv[j]? = some (i, .int x)) (k : XW p l e R s m args below meth c Q D A KC KS nL h kc ks lv (pc + 2) (.int x :: st)) : XW p l e R s m args below meth c Q D A KC KS nL h kc ks lv pc st := fun H locs cells slots ls hP hD hS hc hs hl => lv_iload C.1.1 C.1.2 d (lv_at hl j hj) (k H locs cells slots ls hP hD hS hc hs hl)
theorem xr_lload_n (C : XC p R s m args c D E A nL own cc KC KS) {k0 : Fin 4} {x : Int64} (d : decode cc pc = .ok (.lload_n k0, 1)) (j : Nat) (hj : lv[j]? = some ((k0 : Nat), .long x)) (k : XW p l e R s m args below meth c Q D A KC KS nL h kc ks lv (pc + 1) (.long x :: st)) : XW p l e R s m args below meth c Q D A KC KS nL h kc ks lv pc st := fun H locs cells slots ls hP hD hS hc hs hl => lv_lload_n C.1.1 C.1.2 d rfl (lv_at hl j hj) (k H locs cells slots ls hP hD hS hc hs hl)
theorem xr_lload (C : XC p R s m args c D E A nL own cc KC KS) {i : Nat} {x : Int64} (d : decode cc pc = .ok (.lload i, 2)) (j : Nat) (hj : lv[j]? = some (i, .long x)) (k : XW p l e R s m args below meth c Q D A KC KS nL h kc ks lv (pc + 2) (.long x :: st)) : XW p l e R s m args below meth c Q D A KC KS nL h kc ks lv pc st := fun H locs cells slots ls hP hD hS hc hs hl => lv_lload C.1.1 C.1.2 d (lv_at hl j hj) (k H locs cells slots ls hP hD hS hc hs hl)
theorem xr_aload_n (C : XC p R s m args c D E A nL own cc KC KS) {k0 : Fin 4} {r : Option Nat} (d : decode cc pc = .ok (.aload_n k0, 1)) (j : Nat) (hj : lv[j]? = some ((k0 : Nat), va_rf r)) (k : XW p l e R s m args below meth c Q D A KC KS nL h kc ks lv (pc + 1) (va_rf r :: st)) : XW p l e R s m args below meth c Q D A KC KS nL h kc ks lv pc st := by
  intro H locs cells slots ls hP hD hS hc hs hl
  cases r with
  | none => exact lv_aload_nN C.1.1 C.1.2 d rfl (lv_at hl j hj) (k H locs cells slots ls hP hD hS hc hs hl)
  | some x => exact lv_aload_n C.1.1 C.1.2 d rfl (lv_at hl j hj) (k H locs cells slots ls hP hD hS hc hs hl)
theorem xr_aload (C : XC p R s m args c D E A nL own cc KC KS) {i : Nat} {r : Option Nat} (d : decode cc pc = .ok (.aload i, 2)) (j : Nat) (hj : lv[j]? = some (i, va_rf r)) (k : XW p l e R s m args below meth c Q D A KC KS nL h kc ks lv (pc + 2) (va_rf r :: st)) : XW p l e R s m args below meth c Q D A KC KS nL h kc ks lv pc st := by
  intro H locs cells slots ls hP hD hS hc hs hl
  cases r with
  | none => exact lv_aloadN C.1.1 C.1.2 d (lv_at hl j hj) (k H locs cells slots ls hP hD hS hc hs hl)
  | some x => exact lv_aload C.1.1 C.1.2 d (lv_at hl j hj) (k H locs cells slots ls hP hD hS hc hs hl)
theorem xr_istore_n (C : XC p R s m args c D E A nL own cc KC KS) {k0 : Fin 4} {x : Int32} {lv' : List (Nat × Value)} (d : decode cc pc = .ok (.istore_n k0, 1)) (hn : (k0 : Nat) < nL) (hj : xv_put1 lv (k0 : Nat) (.int x) = lv') (k : XW p l e R s m args below meth c Q D A KC KS nL h kc ks lv' (pc + 1) st) : XW p l e R s m args below meth c Q D A KC KS nL h kc ks lv pc (.int x :: st) := fun H locs cells slots ls hP hD hS hc hs hl => lv_istore_n C.1.1 C.1.2 d rfl hl hn hj (fun ls' hl' => k H locs cells slots ls' hP hD hS hc hs hl')
theorem xr_istore (C : XC p R s m args c D E A nL own cc KC KS) {i : Nat} {x : Int32} {lv' : List (Nat × Value)} (d : decode cc pc = .ok (.istore i, 2)) (hn : i < nL) (hj : xv_put1 lv i (.int x) = lv') (k : XW p l e R s m args below meth c Q D A KC KS nL h kc ks lv' (pc + 2) st) : XW p l e R s m args below meth c Q D A KC KS nL h kc ks lv pc (.int x :: st) := fun H locs cells slots ls hP hD hS hc hs hl => lv_istore C.1.1 C.1.2 d hl hn hj (fun ls' hl' => k H locs cells slots ls' hP hD hS hc hs hl')
theorem xr_lstore_n (C : XC p R s m args c D E A nL own cc KC KS) {k0 : Fin 4} {x : Int64} {lv' : List (Nat × Value)} (d : decode cc pc = .ok (.lstore_n k0, 1)) (hn : (k0 : Nat) + 1 < nL) (hj : xv_put2 lv (k0 : Nat) (.long x) = lv') (k : XW p l e R s m args below meth c Q D A KC KS nL h kc ks lv' (pc + 1) st) : XW p l e R s m args below meth c Q D A KC KS nL h kc ks lv pc (.long x :: st) := fun H locs cells slots ls hP hD hS hc hs hl => lv_lstore_n C.1.1 C.1.2 d rfl hl hn hj (fun ls' hl' => k H locs cells slots ls' hP hD hS hc hs hl')
theorem xr_lstore (C : XC p R s m args c D E A nL own cc KC KS) {i : Nat} {x : Int64} {lv' : List (Nat × Value)} (d : decode cc pc = .ok (.lstore i, 2)) (hn : i + 1 < nL) (hj : xv_put2 lv i (.long x) = lv') (k : XW p l e R s m args below meth c Q D A KC KS nL h kc ks lv' (pc + 2) st) : XW p l e R s m args below meth c Q D A KC KS nL h kc ks lv pc (.long x :: st) := fun H locs cells slots ls hP hD hS hc hs hl => lv_lstore C.1.1 C.1.2 d hl hn hj (fun ls' hl' => k H locs cells slots ls' hP hD hS hc hs hl')
theorem xr_astore_n (C : XC p R s m args c D E A nL own cc KC KS) {k0 : Fin 4} {r : Option Nat} {lv' : List (Nat × Value)} (d : decode cc pc = .ok (.astore_n k0, 1)) (hn : (k0 : Nat) < nL) (hj : xv_put1 lv (k0 : Nat) (va_rf r) = lv') (k : XW p l e R s m args below meth c Q D A KC KS nL h kc ks lv' (pc + 1) st) : XW p l e R s m args below meth c Q D A KC KS nL h kc ks lv pc (va_rf r :: st) := by
  intro H locs cells slots ls hP hD hS hc hs hl
  cases r with
  | none => exact lv_astore_nN C.1.1 C.1.2 d rfl hl hn hj (fun ls' hl' => k H locs cells slots ls' hP hD hS hc hs hl')
  | some x => exact lv_astore_n C.1.1 C.1.2 d rfl hl hn hj (fun ls' hl' => k H locs cells slots ls' hP hD hS hc hs hl')
theorem xr_astore (C : XC p R s m args c D E A nL own cc KC KS) {i : Nat} {r : Option Nat} {lv' : List (Nat × Value)} (d : decode cc pc = .ok (.astore i, 2)) (hn : i < nL) (hj : xv_put1 lv i (va_rf r) = lv') (k : XW p l e R s m args below meth c Q D A KC KS nL h kc ks lv' (pc + 2) st) : XW p l e R s m args below meth c Q D A KC KS nL h kc ks lv pc (va_rf r :: st) := by
  intro H locs cells slots ls hP hD hS hc hs hl
  cases r with
  | none => exact lv_astoreN C.1.1 C.1.2 d hl hn hj (fun ls' hl' => k H locs cells slots ls' hP hD hS hc hs hl')
  | some x => exact lv_astore C.1.1 C.1.2 d hl hn hj (fun ls' hl' => k H locs cells slots ls' hP hD hS hc hs hl')
theorem xr_iinc (C : XC p R s m args c D E A nL own cc KC KS) {i j : Nat} {n : Int} {x v : Int32} {lv' : List (Nat × Value)} (d : decode cc pc = .ok (.iinc i n, 3)) (hk : lv[j]? = some (i, .int x)) (hv : x + Int32.ofInt n = v) (hn : i < nL) (hj : xv_put1 lv i (.int v) = lv') (k : XW p l e R s m args below meth c Q D A KC KS nL h kc ks lv' (pc + 3) st) : XW p l e R s m args below meth c Q D A KC KS nL h kc ks lv pc st := fun H locs cells slots ls hP hD hS hc hs hl => lv_iinc C.1.1 C.1.2 d hl hk hv hn hj (fun ls' hl' => k H locs cells slots ls' hP hD hS hc hs hl')
theorem xr_iadd (C : XC p R s m args c D E A nL own cc KC KS) {x y : Int32} (d : decode cc pc = .ok (.iadd, 1))  (k : XW p l e R s m args below meth c Q D A KC KS nL h kc ks lv (pc + 1) (.int (x + y) :: st)) : XW p l e R s m args below meth c Q D A KC KS nL h kc ks lv pc (.int y :: .int x :: st) := fun H locs cells slots ls hP hD hS hc hs hl => lv_iadd C.1.1 C.1.2 d  (k H locs cells slots ls hP hD hS hc hs hl)
theorem xr_isub (C : XC p R s m args c D E A nL own cc KC KS) {x y : Int32} (d : decode cc pc = .ok (.isub, 1))  (k : XW p l e R s m args below meth c Q D A KC KS nL h kc ks lv (pc + 1) (.int (x - y) :: st)) : XW p l e R s m args below meth c Q D A KC KS nL h kc ks lv pc (.int y :: .int x :: st) := fun H locs cells slots ls hP hD hS hc hs hl => lv_isub C.1.1 C.1.2 d  (k H locs cells slots ls hP hD hS hc hs hl)
theorem xr_imul (C : XC p R s m args c D E A nL own cc KC KS) {x y : Int32} (d : decode cc pc = .ok (.imul, 1))  (k : XW p l e R s m args below meth c Q D A KC KS nL h kc ks lv (pc + 1) (.int (x * y) :: st)) : XW p l e R s m args below meth c Q D A KC KS nL h kc ks lv pc (.int y :: .int x :: st) := fun H locs cells slots ls hP hD hS hc hs hl => lv_imul C.1.1 C.1.2 d  (k H locs cells slots ls hP hD hS hc hs hl)
theorem xr_iand (C : XC p R s m args c D E A nL own cc KC KS) {x y : Int32} (d : decode cc pc = .ok (.iand, 1))  (k : XW p l e R s m args below meth c Q D A KC KS nL h kc ks lv (pc + 1) (.int (x &&& y) :: st)) : XW p l e R s m args below meth c Q D A KC KS nL h kc ks lv pc (.int y :: .int x :: st) := fun H locs cells slots ls hP hD hS hc hs hl => lv_iand C.1.1 C.1.2 d  (k H locs cells slots ls hP hD hS hc hs hl)
theorem xr_ior (C : XC p R s m args c D E A nL own cc KC KS) {x y : Int32} (d : decode cc pc = .ok (.ior, 1))  (k : XW p l e R s m args below meth c Q D A KC KS nL h kc ks lv (pc + 1) (.int (x ||| y) :: st)) : XW p l e R s m args below meth c Q D A KC KS nL h kc ks lv pc (.int y :: .int x :: st) := fun H locs cells slots ls hP hD hS hc hs hl => lv_ior C.1.1 C.1.2 d  (k H locs cells slots ls hP hD hS hc hs hl)
theorem xr_ixor (C : XC p R s m args c D E A nL own cc KC KS) {x y : Int32} (d : decode cc pc = .ok (.ixor, 1))  (k : XW p l e R s m args below meth c Q D A KC KS nL h kc ks lv (pc + 1) (.int (x ^^^ y) :: st)) : XW p l e R s m args below meth c Q D A KC KS nL h kc ks lv pc (.int y :: .int x :: st) := fun H locs cells slots ls hP hD hS hc hs hl => lv_ixor C.1.1 C.1.2 d  (k H locs cells slots ls hP hD hS hc hs hl)
theorem xr_ladd (C : XC p R s m args c D E A nL own cc KC KS) {x y : Int64} (d : decode cc pc = .ok (.ladd, 1))  (k : XW p l e R s m args below meth c Q D A KC KS nL h kc ks lv (pc + 1) (.long (x + y) :: st)) : XW p l e R s m args below meth c Q D A KC KS nL h kc ks lv pc (.long y :: .long x :: st) := fun H locs cells slots ls hP hD hS hc hs hl => lv_ladd C.1.1 C.1.2 d  (k H locs cells slots ls hP hD hS hc hs hl)
theorem xr_lsub (C : XC p R s m args c D E A nL own cc KC KS) {x y : Int64} (d : decode cc pc = .ok (.lsub, 1))  (k : XW p l e R s m args below meth c Q D A KC KS nL h kc ks lv (pc + 1) (.long (x - y) :: st)) : XW p l e R s m args below meth c Q D A KC KS nL h kc ks lv pc (.long y :: .long x :: st) := fun H locs cells slots ls hP hD hS hc hs hl => lv_lsub C.1.1 C.1.2 d  (k H locs cells slots ls hP hD hS hc hs hl)
theorem xr_lmul (C : XC p R s m args c D E A nL own cc KC KS) {x y : Int64} (d : decode cc pc = .ok (.lmul, 1))  (k : XW p l e R s m args below meth c Q D A KC KS nL h kc ks lv (pc + 1) (.long (x * y) :: st)) : XW p l e R s m args below meth c Q D A KC KS nL h kc ks lv pc (.long y :: .long x :: st) := fun H locs cells slots ls hP hD hS hc hs hl => lv_lmul C.1.1 C.1.2 d  (k H locs cells slots ls hP hD hS hc hs hl)
theorem xr_land (C : XC p R s m args c D E A nL own cc KC KS) {x y : Int64} (d : decode cc pc = .ok (.land, 1))  (k : XW p l e R s m args below meth c Q D A KC KS nL h kc ks lv (pc + 1) (.long (x &&& y) :: st)) : XW p l e R s m args below meth c Q D A KC KS nL h kc ks lv pc (.long y :: .long x :: st) := fun H locs cells slots ls hP hD hS hc hs hl => lv_land C.1.1 C.1.2 d  (k H locs cells slots ls hP hD hS hc hs hl)
theorem xr_lor (C : XC p R s m args c D E A nL own cc KC KS) {x y : Int64} (d : decode cc pc = .ok (.lor, 1))  (k : XW p l e R s m args below meth c Q D A KC KS nL h kc ks lv (pc + 1) (.long (x ||| y) :: st)) : XW p l e R s m args below meth c Q D A KC KS nL h kc ks lv pc (.long y :: .long x :: st) := fun H locs cells slots ls hP hD hS hc hs hl => lv_lor C.1.1 C.1.2 d  (k H locs cells slots ls hP hD hS hc hs hl)
theorem xr_lxor (C : XC p R s m args c D E A nL own cc KC KS) {x y : Int64} (d : decode cc pc = .ok (.lxor, 1))  (k : XW p l e R s m args below meth c Q D A KC KS nL h kc ks lv (pc + 1) (.long (x ^^^ y) :: st)) : XW p l e R s m args below meth c Q D A KC KS nL h kc ks lv pc (.long y :: .long x :: st) := fun H locs cells slots ls hP hD hS hc hs hl => lv_lxor C.1.1 C.1.2 d  (k H locs cells slots ls hP hD hS hc hs hl)
theorem xr_idiv (C : XC p R s m args c D E A nL own cc KC KS) {x y : Int32} (d : decode cc pc = .ok (.idiv, 1)) (hne : ¬ y = 0) (k : XW p l e R s m args below meth c Q D A KC KS nL h kc ks lv (pc + 1) (.int (x / y) :: st)) : XW p l e R s m args below meth c Q D A KC KS nL h kc ks lv pc (.int y :: .int x :: st) := fun H locs cells slots ls hP hD hS hc hs hl => lv_idiv C.1.1 C.1.2 d hne (k H locs cells slots ls hP hD hS hc hs hl)
theorem xr_irem (C : XC p R s m args c D E A nL own cc KC KS) {x y : Int32} (d : decode cc pc = .ok (.irem, 1)) (hne : ¬ y = 0) (k : XW p l e R s m args below meth c Q D A KC KS nL h kc ks lv (pc + 1) (.int (x - x / y * y) :: st)) : XW p l e R s m args below meth c Q D A KC KS nL h kc ks lv pc (.int y :: .int x :: st) := fun H locs cells slots ls hP hD hS hc hs hl => lv_irem C.1.1 C.1.2 d hne (k H locs cells slots ls hP hD hS hc hs hl)
theorem xr_ldiv (C : XC p R s m args c D E A nL own cc KC KS) {x y : Int64} (d : decode cc pc = .ok (.ldiv, 1)) (hne : ¬ y = 0) (k : XW p l e R s m args below meth c Q D A KC KS nL h kc ks lv (pc + 1) (.long (x / y) :: st)) : XW p l e R s m args below meth c Q D A KC KS nL h kc ks lv pc (.long y :: .long x :: st) := fun H locs cells slots ls hP hD hS hc hs hl => lv_ldiv C.1.1 C.1.2 d hne (k H locs cells slots ls hP hD hS hc hs hl)
theorem xr_lrem (C : XC p R s m args c D E A nL own cc KC KS) {x y : Int64} (d : decode cc pc = .ok (.lrem, 1)) (hne : ¬ y = 0) (k : XW p l e R s m args below meth c Q D A KC KS nL h kc ks lv (pc + 1) (.long (x - x / y * y) :: st)) : XW p l e R s m args below meth c Q D A KC KS nL h kc ks lv pc (.long y :: .long x :: st) := fun H locs cells slots ls hP hD hS hc hs hl => lv_lrem C.1.1 C.1.2 d hne (k H locs cells slots ls hP hD hS hc hs hl)
theorem xr_ineg (C : XC p R s m args c D E A nL own cc KC KS) {x : Int32} (d : decode cc pc = .ok (.ineg, 1))  (k : XW p l e R s m args below meth c Q D A KC KS nL h kc ks lv (pc + 1) (.int (-x) :: st)) : XW p l e R s m args below meth c Q D A KC KS nL h kc ks lv pc (.int x :: st) := fun H locs cells slots ls hP hD hS hc hs hl => lv_ineg C.1.1 C.1.2 d  (k H locs cells slots ls hP hD hS hc hs hl)
theorem xr_lneg (C : XC p R s m args c D E A nL own cc KC KS) {x : Int64} (d : decode cc pc = .ok (.lneg, 1))  (k : XW p l e R s m args below meth c Q D A KC KS nL h kc ks lv (pc + 1) (.long (-x) :: st)) : XW p l e R s m args below meth c Q D A KC KS nL h kc ks lv pc (.long x :: st) := fun H locs cells slots ls hP hD hS hc hs hl => lv_lneg C.1.1 C.1.2 d  (k H locs cells slots ls hP hD hS hc hs hl)
theorem xr_ishl (C : XC p R s m args c D E A nL own cc KC KS) {x y : Int32} (d : decode cc pc = .ok (.ishl, 1))  (k : XW p l e R s m args below meth c Q D A KC KS nL h kc ks lv (pc + 1) (.int (x <<< (y &&& 31)) :: st)) : XW p l e R s m args below meth c Q D A KC KS nL h kc ks lv pc (.int y :: .int x :: st) := fun H locs cells slots ls hP hD hS hc hs hl => lv_ishl C.1.1 C.1.2 d  (k H locs cells slots ls hP hD hS hc hs hl)
theorem xr_ishr (C : XC p R s m args c D E A nL own cc KC KS) {x y : Int32} (d : decode cc pc = .ok (.ishr, 1))  (k : XW p l e R s m args below meth c Q D A KC KS nL h kc ks lv (pc + 1) (.int (x >>> (y &&& 31)) :: st)) : XW p l e R s m args below meth c Q D A KC KS nL h kc ks lv pc (.int y :: .int x :: st) := fun H locs cells slots ls hP hD hS hc hs hl => lv_ishr C.1.1 C.1.2 d  (k H locs cells slots ls hP hD hS hc hs hl)
theorem xr_i2l (C : XC p R s m args c D E A nL own cc KC KS) {x : Int32} {v : Int64} (d : decode cc pc = .ok (.i2l, 1)) (hv : x.toInt64 = v) (k : XW p l e R s m args below meth c Q D A KC KS nL h kc ks lv (pc + 1) (.long v :: st)) : XW p l e R s m args below meth c Q D A KC KS nL h kc ks lv pc (.int x :: st) := fun H locs cells slots ls hP hD hS hc hs hl => lv_i2l C.1.1 C.1.2 d hv (k H locs cells slots ls hP hD hS hc hs hl)
theorem xr_l2i (C : XC p R s m args c D E A nL own cc KC KS) {x : Int64} {v : Int32} (d : decode cc pc = .ok (.l2i, 1)) (hv : x.toInt32 = v) (k : XW p l e R s m args below meth c Q D A KC KS nL h kc ks lv (pc + 1) (.int v :: st)) : XW p l e R s m args below meth c Q D A KC KS nL h kc ks lv pc (.long x :: st) := fun H locs cells slots ls hP hD hS hc hs hl => lv_l2i C.1.1 C.1.2 d hv (k H locs cells slots ls hP hD hS hc hs hl)
theorem xr_lshl (C : XC p R s m args c D E A nL own cc KC KS) {x v : Int64} {y : Int32} (d : decode cc pc = .ok (.lshl, 1)) (hv : x <<< (y.toInt64 &&& 63) = v) (k : XW p l e R s m args below meth c Q D A KC KS nL h kc ks lv (pc + 1) (.long v :: st)) : XW p l e R s m args below meth c Q D A KC KS nL h kc ks lv pc (.int y :: .long x :: st) := fun H locs cells slots ls hP hD hS hc hs hl => lv_lshl C.1.1 C.1.2 d hv (k H locs cells slots ls hP hD hS hc hs hl)
theorem xr_lshr (C : XC p R s m args c D E A nL own cc KC KS) {x v : Int64} {y : Int32} (d : decode cc pc = .ok (.lshr, 1)) (hv : x >>> (y.toInt64 &&& 63) = v) (k : XW p l e R s m args below meth c Q D A KC KS nL h kc ks lv (pc + 1) (.long v :: st)) : XW p l e R s m args below meth c Q D A KC KS nL h kc ks lv pc (.int y :: .long x :: st) := fun H locs cells slots ls hP hD hS hc hs hl => lv_lshr C.1.1 C.1.2 d hv (k H locs cells slots ls hP hD hS hc hs hl)
theorem xr_iushr (C : XC p R s m args c D E A nL own cc KC KS) {x y v : Int32} (d : decode cc pc = .ok (.iushr, 1)) (hv : (x.toUInt32 >>> (y.toUInt32 &&& Int32.toUInt32 31)).toInt32 = v) (k : XW p l e R s m args below meth c Q D A KC KS nL h kc ks lv (pc + 1) (.int v :: st)) : XW p l e R s m args below meth c Q D A KC KS nL h kc ks lv pc (.int y :: .int x :: st) := fun H locs cells slots ls hP hD hS hc hs hl => lv_iushr C.1.1 C.1.2 d hv (k H locs cells slots ls hP hD hS hc hs hl)
theorem xr_lushr (C : XC p R s m args c D E A nL own cc KC KS) {x v : Int64} {y : Int32} (d : decode cc pc = .ok (.lushr, 1)) (hv : (x.toUInt64 >>> (y.toInt64.toUInt64 &&& Int64.toUInt64 63)).toInt64 = v) (k : XW p l e R s m args below meth c Q D A KC KS nL h kc ks lv (pc + 1) (.long v :: st)) : XW p l e R s m args below meth c Q D A KC KS nL h kc ks lv pc (.int y :: .long x :: st) := fun H locs cells slots ls hP hD hS hc hs hl => lv_lushr C.1.1 C.1.2 d hv (k H locs cells slots ls hP hD hS hc hs hl)
theorem xr_lcmp (C : XC p R s m args c D E A nL own cc KC KS) {x y : Int64} (d : decode cc pc = .ok (.lcmp, 1))  (k : XW p l e R s m args below meth c Q D A KC KS nL h kc ks lv (pc + 1) (.int (lg_cmp x y) :: st)) : XW p l e R s m args below meth c Q D A KC KS nL h kc ks lv pc (.long y :: .long x :: st) := fun H locs cells slots ls hP hD hS hc hs hl => W.lcmp C.1.1 C.1.2 d  (k H locs cells slots ls hP hD hS hc hs hl)
theorem xr_dup (C : XC p R s m args c D E A nL own cc KC KS) {a : Value} (d : decode cc pc = .ok (.dup, 1)) (h1 : a.category = 1) (k : XW p l e R s m args below meth c Q D A KC KS nL h kc ks lv (pc + 1) (a :: a :: st)) : XW p l e R s m args below meth c Q D A KC KS nL h kc ks lv pc (a :: st) := fun H locs cells slots ls hP hD hS hc hs hl => lv_dup C.1.1 C.1.2 d h1 (k H locs cells slots ls hP hD hS hc hs hl)
theorem xr_pop (C : XC p R s m args c D E A nL own cc KC KS) {a : Value} (d : decode cc pc = .ok (.pop, 1)) (h1 : a.category = 1) (k : XW p l e R s m args below meth c Q D A KC KS nL h kc ks lv (pc + 1) (st)) : XW p l e R s m args below meth c Q D A KC KS nL h kc ks lv pc (a :: st) := fun H locs cells slots ls hP hD hS hc hs hl => lv_pop C.1.1 C.1.2 d h1 (k H locs cells slots ls hP hD hS hc hs hl)
theorem xr_dup_x1 (C : XC p R s m args c D E A nL own cc KC KS) {a b : Value} (d : decode cc pc = .ok (.dup_x1, 1)) (h1 : a.category = 1) (h2 : b.category = 1) (k : XW p l e R s m args below meth c Q D A KC KS nL h kc ks lv (pc + 1) (a :: b :: a :: st)) : XW p l e R s m args below meth c Q D A KC KS nL h kc ks lv pc (a :: b :: st) := fun H locs cells slots ls hP hD hS hc hs hl => lv_dup_x1 C.1.1 C.1.2 d h1 h2 (k H locs cells slots ls hP hD hS hc hs hl)
theorem xr_dup_x2 (C : XC p R s m args c D E A nL own cc KC KS) {a b b2 : Value} (d : decode cc pc = .ok (.dup_x2, 1)) (h1 : a.category = 1) (h2 : b.category = 1) (h3 : b2.category = 1) (k : XW p l e R s m args below meth c Q D A KC KS nL h kc ks lv (pc + 1) (a :: b :: b2 :: a :: st)) : XW p l e R s m args below meth c Q D A KC KS nL h kc ks lv pc (a :: b :: b2 :: st) := fun H locs cells slots ls hP hD hS hc hs hl => lv_dup_x2 C.1.1 C.1.2 d h1 h2 h3 (k H locs cells slots ls hP hD hS hc hs hl)
theorem xr_dup2_11 (C : XC p R s m args c D E A nL own cc KC KS) {a b : Value} (d : decode cc pc = .ok (.dup2, 1)) (h1 : a.category = 1) (h2 : b.category = 1) (k : XW p l e R s m args below meth c Q D A KC KS nL h kc ks lv (pc + 1) (a :: b :: a :: b :: st)) : XW p l e R s m args below meth c Q D A KC KS nL h kc ks lv pc (a :: b :: st) := fun H locs cells slots ls hP hD hS hc hs hl => lv_dup2_11 C.1.1 C.1.2 d h1 h2 (k H locs cells slots ls hP hD hS hc hs hl)
theorem xr_dup2_2 (C : XC p R s m args c D E A nL own cc KC KS) {a : Value} (d : decode cc pc = .ok (.dup2, 1)) (h1 : a.category = 2) (k : XW p l e R s m args below meth c Q D A KC KS nL h kc ks lv (pc + 1) (a :: a :: st)) : XW p l e R s m args below meth c Q D A KC KS nL h kc ks lv pc (a :: st) := fun H locs cells slots ls hP hD hS hc hs hl => lv_dup2_2 C.1.1 C.1.2 d h1 (k H locs cells slots ls hP hD hS hc hs hl)
theorem xr_pop2_2 (C : XC p R s m args c D E A nL own cc KC KS) {a : Value} (d : decode cc pc = .ok (.pop2, 1)) (h1 : a.category = 2) (k : XW p l e R s m args below meth c Q D A KC KS nL h kc ks lv (pc + 1) (st)) : XW p l e R s m args below meth c Q D A KC KS nL h kc ks lv pc (a :: st) := fun H locs cells slots ls hP hD hS hc hs hl => lv_pop2_2 C.1.1 C.1.2 d h1 (k H locs cells slots ls hP hD hS hc hs hl)
theorem xr_dup2_x1_2 (C : XC p R s m args c D E A nL own cc KC KS) {a b : Value} (d : decode cc pc = .ok (.dup2_x1, 1)) (h1 : a.category = 2) (h2 : b.category = 1) (k : XW p l e R s m args below meth c Q D A KC KS nL h kc ks lv (pc + 1) (a :: b :: a :: st)) : XW p l e R s m args below meth c Q D A KC KS nL h kc ks lv pc (a :: b :: st) := fun H locs cells slots ls hP hD hS hc hs hl => lv_dup2_x1_2 C.1.1 C.1.2 d h1 h2 (k H locs cells slots ls hP hD hS hc hs hl)
theorem xr_goto (C : XC p R s m args c D E A nL own cc KC KS) {off : Int} {tgt : Nat} (d : decode cc pc = .ok (.goto off, 3)) (ht : (pc : Int) + off = (tgt : Int)) (k : XW p l e R s m args below meth c Q D A KC KS nL h kc ks lv tgt (st)) : XW p l e R s m args below meth c Q D A KC KS nL h kc ks lv pc (st) := fun H locs cells slots ls hP hD hS hc hs hl => lv_goto C.1.1 C.1.2 d ht (k H locs cells slots ls hP hD hS hc hs hl)
theorem xr_if_eq (C : XC p R s m args c D E A nL own cc KC KS) {x : Int32} {off : Int} {tgt : Nat} (d : decode cc pc = .ok (.ifCond .eq off, 3)) (ht : (pc : Int) + off = (tgt : Int)) (kt : x = 0 → XW p l e R s m args below meth c Q D A KC KS nL h kc ks lv tgt st) (kf : ¬ x = 0 → XW p l e R s m args below meth c Q D A KC KS nL h kc ks lv (pc + 3) st) : XW p l e R s m args below meth c Q D A KC KS nL h kc ks lv pc (.int x :: st) := fun H locs cells slots ls hP hD hS hc hs hl => lv_if_eq C.1.1 C.1.2 d ht (fun q => kt q H locs cells slots ls hP hD hS hc hs hl) (fun q => kf q H locs cells slots ls hP hD hS hc hs hl)
theorem xr_icmp_eq (C : XC p R s m args c D E A nL own cc KC KS) {x y : Int32} {off : Int} {tgt : Nat} (d : decode cc pc = .ok (.if_icmp .eq off, 3)) (ht : (pc : Int) + off = (tgt : Int)) (kt : x = y → XW p l e R s m args below meth c Q D A KC KS nL h kc ks lv tgt st) (kf : ¬ x = y → XW p l e R s m args below meth c Q D A KC KS nL h kc ks lv (pc + 3) st) : XW p l e R s m args below meth c Q D A KC KS nL h kc ks lv pc (.int y :: .int x :: st) := fun H locs cells slots ls hP hD hS hc hs hl => lv_icmp_eq C.1.1 C.1.2 d ht (fun q => kt q H locs cells slots ls hP hD hS hc hs hl) (fun q => kf q H locs cells slots ls hP hD hS hc hs hl)
theorem xr_if_ne (C : XC p R s m args c D E A nL own cc KC KS) {x : Int32} {off : Int} {tgt : Nat} (d : decode cc pc = .ok (.ifCond .ne off, 3)) (ht : (pc : Int) + off = (tgt : Int)) (kt : ¬ x = 0 → XW p l e R s m args below meth c Q D A KC KS nL h kc ks lv tgt st) (kf : x = 0 → XW p l e R s m args below meth c Q D A KC KS nL h kc ks lv (pc + 3) st) : XW p l e R s m args below meth c Q D A KC KS nL h kc ks lv pc (.int x :: st) := fun H locs cells slots ls hP hD hS hc hs hl => lv_if_ne C.1.1 C.1.2 d ht (fun q => kt q H locs cells slots ls hP hD hS hc hs hl) (fun q => kf q H locs cells slots ls hP hD hS hc hs hl)
theorem xr_icmp_ne (C : XC p R s m args c D E A nL own cc KC KS) {x y : Int32} {off : Int} {tgt : Nat} (d : decode cc pc = .ok (.if_icmp .ne off, 3)) (ht : (pc : Int) + off = (tgt : Int)) (kt : ¬ x = y → XW p l e R s m args below meth c Q D A KC KS nL h kc ks lv tgt st) (kf : x = y → XW p l e R s m args below meth c Q D A KC KS nL h kc ks lv (pc + 3) st) : XW p l e R s m args below meth c Q D A KC KS nL h kc ks lv pc (.int y :: .int x :: st) := fun H locs cells slots ls hP hD hS hc hs hl => lv_icmp_ne C.1.1 C.1.2 d ht (fun q => kt q H locs cells slots ls hP hD hS hc hs hl) (fun q => kf q H locs cells slots ls hP hD hS hc hs hl)
theorem xr_if_lt (C : XC p R s m args c D E A nL own cc KC KS) {x : Int32} {off : Int} {tgt : Nat} (d : decode cc pc = .ok (.ifCond .lt off, 3)) (ht : (pc : Int) + off = (tgt : Int)) (kt : x < 0 → XW p l e R s m args below meth c Q D A KC KS nL h kc ks lv tgt st) (kf : ¬ x < 0 → XW p l e R s m args below meth c Q D A KC KS nL h kc ks lv (pc + 3) st) : XW p l e R s m args below meth c Q D A KC KS nL h kc ks lv pc (.int x :: st) := fun H locs cells slots ls hP hD hS hc hs hl => lv_if_lt C.1.1 C.1.2 d ht (fun q => kt q H locs cells slots ls hP hD hS hc hs hl) (fun q => kf q H locs cells slots ls hP hD hS hc hs hl)
theorem xr_icmp_lt (C : XC p R s m args c D E A nL own cc KC KS) {x y : Int32} {off : Int} {tgt : Nat} (d : decode cc pc = .ok (.if_icmp .lt off, 3)) (ht : (pc : Int) + off = (tgt : Int)) (kt : x < y → XW p l e R s m args below meth c Q D A KC KS nL h kc ks lv tgt st) (kf : ¬ x < y → XW p l e R s m args below meth c Q D A KC KS nL h kc ks lv (pc + 3) st) : XW p l e R s m args below meth c Q D A KC KS nL h kc ks lv pc (.int y :: .int x :: st) := fun H locs cells slots ls hP hD hS hc hs hl => lv_icmp_lt C.1.1 C.1.2 d ht (fun q => kt q H locs cells slots ls hP hD hS hc hs hl) (fun q => kf q H locs cells slots ls hP hD hS hc hs hl)
theorem xr_if_ge (C : XC p R s m args c D E A nL own cc KC KS) {x : Int32} {off : Int} {tgt : Nat} (d : decode cc pc = .ok (.ifCond .ge off, 3)) (ht : (pc : Int) + off = (tgt : Int)) (kt : 0 ≤ x → XW p l e R s m args below meth c Q D A KC KS nL h kc ks lv tgt st) (kf : ¬ 0 ≤ x → XW p l e R s m args below meth c Q D A KC KS nL h kc ks lv (pc + 3) st) : XW p l e R s m args below meth c Q D A KC KS nL h kc ks lv pc (.int x :: st) := fun H locs cells slots ls hP hD hS hc hs hl => lv_if_ge C.1.1 C.1.2 d ht (fun q => kt q H locs cells slots ls hP hD hS hc hs hl) (fun q => kf q H locs cells slots ls hP hD hS hc hs hl)
theorem xr_icmp_ge (C : XC p R s m args c D E A nL own cc KC KS) {x y : Int32} {off : Int} {tgt : Nat} (d : decode cc pc = .ok (.if_icmp .ge off, 3)) (ht : (pc : Int) + off = (tgt : Int)) (kt : y ≤ x → XW p l e R s m args below meth c Q D A KC KS nL h kc ks lv tgt st) (kf : ¬ y ≤ x → XW p l e R s m args below meth c Q D A KC KS nL h kc ks lv (pc + 3) st) : XW p l e R s m args below meth c Q D A KC KS nL h kc ks lv pc (.int y :: .int x :: st) := fun H locs cells slots ls hP hD hS hc hs hl => lv_icmp_ge C.1.1 C.1.2 d ht (fun q => kt q H locs cells slots ls hP hD hS hc hs hl) (fun q => kf q H locs cells slots ls hP hD hS hc hs hl)
theorem xr_if_gt (C : XC p R s m args c D E A nL own cc KC KS) {x : Int32} {off : Int} {tgt : Nat} (d : decode cc pc = .ok (.ifCond .gt off, 3)) (ht : (pc : Int) + off = (tgt : Int)) (kt : 0 < x → XW p l e R s m args below meth c Q D A KC KS nL h kc ks lv tgt st) (kf : ¬ 0 < x → XW p l e R s m args below meth c Q D A KC KS nL h kc ks lv (pc + 3) st) : XW p l e R s m args below meth c Q D A KC KS nL h kc ks lv pc (.int x :: st) := fun H locs cells slots ls hP hD hS hc hs hl => lv_if_gt C.1.1 C.1.2 d ht (fun q => kt q H locs cells slots ls hP hD hS hc hs hl) (fun q => kf q H locs cells slots ls hP hD hS hc hs hl)
theorem xr_icmp_gt (C : XC p R s m args c D E A nL own cc KC KS) {x y : Int32} {off : Int} {tgt : Nat} (d : decode cc pc = .ok (.if_icmp .gt off, 3)) (ht : (pc : Int) + off = (tgt : Int)) (kt : y < x → XW p l e R s m args below meth c Q D A KC KS nL h kc ks lv tgt st) (kf : ¬ y < x → XW p l e R s m args below meth c Q D A KC KS nL h kc ks lv (pc + 3) st) : XW p l e R s m args below meth c Q D A KC KS nL h kc ks lv pc (.int y :: .int x :: st) := fun H locs cells slots ls hP hD hS hc hs hl => lv_icmp_gt C.1.1 C.1.2 d ht (fun q => kt q H locs cells slots ls hP hD hS hc hs hl) (fun q => kf q H locs cells slots ls hP hD hS hc hs hl)
theorem xr_if_le (C : XC p R s m args c D E A nL own cc KC KS) {x : Int32} {off : Int} {tgt : Nat} (d : decode cc pc = .ok (.ifCond .le off, 3)) (ht : (pc : Int) + off = (tgt : Int)) (kt : x ≤ 0 → XW p l e R s m args below meth c Q D A KC KS nL h kc ks lv tgt st) (kf : ¬ x ≤ 0 → XW p l e R s m args below meth c Q D A KC KS nL h kc ks lv (pc + 3) st) : XW p l e R s m args below meth c Q D A KC KS nL h kc ks lv pc (.int x :: st) := fun H locs cells slots ls hP hD hS hc hs hl => lv_if_le C.1.1 C.1.2 d ht (fun q => kt q H locs cells slots ls hP hD hS hc hs hl) (fun q => kf q H locs cells slots ls hP hD hS hc hs hl)
theorem xr_icmp_le (C : XC p R s m args c D E A nL own cc KC KS) {x y : Int32} {off : Int} {tgt : Nat} (d : decode cc pc = .ok (.if_icmp .le off, 3)) (ht : (pc : Int) + off = (tgt : Int)) (kt : x ≤ y → XW p l e R s m args below meth c Q D A KC KS nL h kc ks lv tgt st) (kf : ¬ x ≤ y → XW p l e R s m args below meth c Q D A KC KS nL h kc ks lv (pc + 3) st) : XW p l e R s m args below meth c Q D A KC KS nL h kc ks lv pc (.int y :: .int x :: st) := fun H locs cells slots ls hP hD hS hc hs hl => lv_icmp_le C.1.1 C.1.2 d ht (fun q => kt q H locs cells slots ls hP hD hS hc hs hl) (fun q => kf q H locs cells slots ls hP hD hS hc hs hl)
theorem xr_acmp_eq (C : XC p R s m args c D E A nL own cc KC KS) {rx ry : Option Nat} {off : Int} {tgt : Nat} (d : decode cc pc = .ok (.if_acmp .eq off, 3)) (ht : (pc : Int) + off = (tgt : Int)) (kt : rx = ry → XW p l e R s m args below meth c Q D A KC KS nL h kc ks lv tgt st) (kf : ¬ rx = ry → XW p l e R s m args below meth c Q D A KC KS nL h kc ks lv (pc + 3) st) : XW p l e R s m args below meth c Q D A KC KS nL h kc ks lv pc (va_rf ry :: va_rf rx :: st) := fun H locs cells slots ls hP hD hS hc hs hl => lv_acmp_eq C.1.1 C.1.2 d ht (fun q => kt q H locs cells slots ls hP hD hS hc hs hl) (fun q => kf q H locs cells slots ls hP hD hS hc hs hl)
theorem xr_acmp_ne (C : XC p R s m args c D E A nL own cc KC KS) {rx ry : Option Nat} {off : Int} {tgt : Nat} (d : decode cc pc = .ok (.if_acmp .ne off, 3)) (ht : (pc : Int) + off = (tgt : Int)) (kt : ¬ rx = ry → XW p l e R s m args below meth c Q D A KC KS nL h kc ks lv tgt st) (kf : rx = ry → XW p l e R s m args below meth c Q D A KC KS nL h kc ks lv (pc + 3) st) : XW p l e R s m args below meth c Q D A KC KS nL h kc ks lv pc (va_rf ry :: va_rf rx :: st) := fun H locs cells slots ls hP hD hS hc hs hl => lv_acmp_ne C.1.1 C.1.2 d ht (fun q => kt q H locs cells slots ls hP hD hS hc hs hl) (fun q => kf q H locs cells slots ls hP hD hS hc hs hl)
theorem xr_ifnull (C : XC p R s m args c D E A nL own cc KC KS) {r : Option Nat} {off : Int} {tgt : Nat} (d : decode cc pc = .ok (.ifnull off, 3)) (ht : (pc : Int) + off = (tgt : Int)) (kt : r = none → XW p l e R s m args below meth c Q D A KC KS nL h kc ks lv tgt st) (kf : ∀ a, r = some a → XW p l e R s m args below meth c Q D A KC KS nL h kc ks lv (pc + 3) st) : XW p l e R s m args below meth c Q D A KC KS nL h kc ks lv pc (va_rf r :: st) := by
  intro H locs cells slots ls hP hD hS hc hs hl
  cases r with
  | none => exact lv_ifnullN C.1.1 C.1.2 d ht (kt rfl H locs cells slots ls hP hD hS hc hs hl)
  | some x => exact lv_ifnull C.1.1 C.1.2 d (kf x rfl H locs cells slots ls hP hD hS hc hs hl)
theorem xr_ifnonnull (C : XC p R s m args c D E A nL own cc KC KS) {r : Option Nat} {off : Int} {tgt : Nat} (d : decode cc pc = .ok (.ifnonnull off, 3)) (ht : (pc : Int) + off = (tgt : Int)) (kt : ∀ a, r = some a → XW p l e R s m args below meth c Q D A KC KS nL h kc ks lv tgt st) (kf : r = none → XW p l e R s m args below meth c Q D A KC KS nL h kc ks lv (pc + 3) st) : XW p l e R s m args below meth c Q D A KC KS nL h kc ks lv pc (va_rf r :: st) := by
  intro H locs cells slots ls hP hD hS hc hs hl
  cases r with
  | none => exact lv_ifnonnullN C.1.1 C.1.2 d (kf rfl H locs cells slots ls hP hD hS hc hs hl)
  | some x => exact lv_ifnonnull C.1.1 C.1.2 d ht (kt x rfl H locs cells slots ls hP hD hS hc hs hl)
theorem xr_tableIn (C : XC p R s m args c D E A nL own cc KC KS) {dflt lo hi : Int} {offs : Array Int} {len : Nat} {x : Int32} {off : Int} {tgt : Nat} (d : decode cc pc = .ok (.tableswitch dflt lo hi offs, len)) (h1 : ¬ x.toInt < lo) (h2 : ¬ hi < x.toInt) (ho : offs[(x.toInt - lo).toNat]? = some off) (ht : (pc : Int) + off = (tgt : Int)) (k : XW p l e R s m args below meth c Q D A KC KS nL h kc ks lv tgt st) : XW p l e R s m args below meth c Q D A KC KS nL h kc ks lv pc (.int x :: st) := fun H locs cells slots ls hP hD hS hc hs hl => lv_tableIn C.1.1 C.1.2 d h1 h2 ho ht (k H locs cells slots ls hP hD hS hc hs hl)
theorem xr_tableOut (C : XC p R s m args c D E A nL own cc KC KS) {dflt lo hi : Int} {offs : Array Int} {len : Nat} {x : Int32} {tgt : Nat} (d : decode cc pc = .ok (.tableswitch dflt lo hi offs, len)) (h1 : x.toInt < lo ∨ hi < x.toInt) (ht : (pc : Int) + dflt = (tgt : Int)) (k : XW p l e R s m args below meth c Q D A KC KS nL h kc ks lv tgt st) : XW p l e R s m args below meth c Q D A KC KS nL h kc ks lv pc (.int x :: st) := fun H locs cells slots ls hP hD hS hc hs hl => lv_tableOut C.1.1 C.1.2 d h1 ht (k H locs cells slots ls hP hD hS hc hs hl)
theorem xr_lookup (C : XC p R s m args c D E A nL own cc KC KS) {dflt : Int} {ps : Array (Int × Int)} {len : Nat} {x : Int32} {off : Int} {tgt : Nat} (d : decode cc pc = .ok (.lookupswitch dflt ps, len)) (hp : (ps.toList.zip (ps.toList.drop 1)).all (fun (a, next) => a.1 < next.1) = true) (ho : Op.lookupswitch.offset ps.toList dflt x.toInt = off) (ht : (pc : Int) + off = (tgt : Int)) (k : XW p l e R s m args below meth c Q D A KC KS nL h kc ks lv tgt st) : XW p l e R s m args below meth c Q D A KC KS nL h kc ks lv pc (.int x :: st) := fun H locs cells slots ls hP hD hS hc hs hl => lv_lookup C.1.1 C.1.2 d hp ho ht (k H locs cells slots ls hP hD hS hc hs hl)
theorem xr_sub {lv' : List (Nat × Value)} (js : List Nat) (hj : lv_pick lv js = lv') (k : XW p l e R s m args below meth c Q D A KC KS nL h kc ks lv' pc st) : XW p l e R s m args below meth c Q D A KC KS nL h kc ks lv pc st := fun H locs cells slots ls hP hD hS hc hs hl => k H locs cells slots ls hP hD hS hc hs (lv_sub hl js hj)
end XR
section XH
variable {p : Program} {l : Launch} {e : Env} {R : Room} {s : State} {m : MethodId} {args : Array Value} {below : List Frame} {meth : Method} {c : Code} {Q : State → Prop} {D : va_G} {E : Ev} {A : Nat → Prop} {KC KS nL : Nat} {own : String} {cc : ByteArray} {h : Hp} {kc ks : Nat} {lv : List (Nat × Value)} {pc : Nat} {st : List Value}
/-- a field is read -/
theorem xr_get (C : XC p R s m args c D E A nL own cc KC KS) {Cn : String} {T : u_T} {N ci idx a : Nat} {fs : List Value} {v : Value} (k : Nat) (ha : xh_at h a (.inr (ci, fs))) (hv : fs[k]? = some v) (hc : vwCl[ci]? = some (Cn, T, N)) (hin : ∀ w ∈ u_ws Cn T N, w ∈ xw_tbl) (hk : k < N) (hw : Cond.fieldLink own idx (T k).1 (T k).2.1 (T k).2.2.1 ∈ xw_tbl) (d : decode cc pc = .ok (.getfield idx, 3))
    (kk : XW p l e R s m args below meth c Q D A KC KS nL h kc ks lv (pc + 3) (v :: st)) : XW p l e R s m args below meth c Q D A KC KS nL h kc ks lv pc (.ref a :: st) := by
  intro H locs cells slots ls hP hD hS hc1 hs hl
  obtain ⟨q, hq⟩ := xh_get ha
  exact va_get C.1.1 C.1.2 C.2.2.1 hin C.2.1.2 C.2.2.2.1 hP q hq hc k hk (C.2.2.1 _ hw) (fun _ h9 => h9) hv d (kk H locs cells slots ls hP hD hS hc1 hs hl)
/-- a field is written -/
theorem xr_put (C : XC p R s m args c D E A nL own cc KC KS) {Cn : String} {T : u_T} {N ci idx a : Nat} {fs : List Value} {v : Value} (k : Nat) (ty : FieldType) (ty0 : Nat → FieldType) (hty : ∀ k, k < N → parseFieldDescriptor (T k).2.2.1 = some (ty0 k)) (hnm : ∀ a, a < N → ∀ b, b < N → a ≠ b → (T a).2.1 ≠ (T b).2.1) (ha : xh_at h a (.inr (ci, fs))) (hlen : k < fs.length) (hc : vwCl[ci]? = some (Cn, T, N)) (hin : ∀ w ∈ u_ws Cn T N, w ∈ xw_tbl) (hk : k < N) (hw : Cond.fieldLink own idx (T k).1 (T k).2.1 (T k).2.2.1 ∈ xw_tbl) (hfin : (T k).2.2.2 = false) (hd : parseFieldDescriptor (T k).2.2.1 = some ty) (hn : narrow ty v = v) (hfit : fits ty v = true) {h1 : Hp} (hh : h1 = xh_set h a (.inr (ci, fs.set k v))) (d : decode cc pc = .ok (.putfield idx, 3))
    (kk : XW p l e R s m args below meth c Q D A KC KS nL h1 kc ks lv (pc + 3) st) : XW p l e R s m args below meth c Q D A KC KS nL h kc ks lv pc (v :: .ref a :: st) := by
  subst hh
  intro H locs cells slots ls hP hD hS hc1 hs hl
  obtain ⟨q, hq⟩ := xh_get ha
  refine va_put C.1.1 C.1.2 C.2.2.1 hin ty0 hty hnm C.2.1.2 C.2.2.2.1 hP hD hS q hq hc k hk (C.2.2.1 _ hw) (fun _ h9 => h9) hfin hd hn hfit hlen d (fun H1 locs1 hP1 hD1 hS1 => ?_)
  rw [xh_put hD ha hq] at hP1 hD1
  exact kk H1 locs1 cells slots ls hP1 hD1 hS1 hc1 hs hl
/-- a final field is written by its constructor -/
theorem xr_putF (C : XC p R s m args c D E A nL own cc KC KS) {Cn : String} {T : u_T} {N ci idx a : Nat} {fs : List Value} {v : Value} (k : Nat) (ty : FieldType) (ty0 : Nat → FieldType) (hty : ∀ k, k < N → parseFieldDescriptor (T k).2.2.1 = some (ty0 k)) (hnm : ∀ a, a < N → ∀ b, b < N → a ≠ b → (T a).2.1 ≠ (T b).2.1) (ha : xh_at h a (.inr (ci, fs))) (hlen : k < fs.length) (hc : vwCl[ci]? = some (Cn, T, N)) (hin : ∀ w ∈ u_ws Cn T N, w ∈ xw_tbl) (hk : k < N) (hw : Cond.fieldLink own idx (T k).1 (T k).2.1 (T k).2.2.1 ∈ xw_tbl) (hfin : (T k).2.2.2 = true) (hin2 : meth.name = "<init>") (hdecl : (T k).1 = own) (hd : parseFieldDescriptor (T k).2.2.1 = some ty) (hn : narrow ty v = v) (hfit : fits ty v = true) {h1 : Hp} (hh : h1 = xh_set h a (.inr (ci, fs.set k v))) (d : decode cc pc = .ok (.putfield idx, 3))
    (kk : XW p l e R s m args below meth c Q D A KC KS nL h1 kc ks lv (pc + 3) st) : XW p l e R s m args below meth c Q D A KC KS nL h kc ks lv pc (v :: .ref a :: st) := by
  subst hh
  intro H locs cells slots ls hP hD hS hc1 hs hl
  obtain ⟨q, hq⟩ := xh_get ha
  refine va_putF C.1.1 C.1.2 C.2.2.1 hin ty0 hty hnm C.2.1.2 C.2.2.2.1 hP hD hS q hq hc k hk (C.2.2.1 _ hw) (fun _ h9 => h9) hfin hin2 hdecl hd hn hfit hlen d (fun H1 locs1 hP1 hD1 hS1 => ?_)
  rw [xh_put hD ha hq] at hP1 hD1
  exact kk H1 locs1 cells slots ls hP1 hD1 hS1 hc1 hs hl
/-- a constant static -/
theorem xr_gets (C : XC p R s m args c D E A nL own cc KC KS) {idx : Nat} (i : Nat) {q : String × String × String} (hq : xs_st[i]? = some q) (hw : Cond.fieldLink own idx q.1 q.2.1 q.2.2 ∈ xw_tbl) (d : decode cc pc = .ok (.getstatic idx, 3))
    (kk : XW p l e R s m args below meth c Q D A KC KS nL h kc ks lv (pc + 3) (.ref (E.2.1 i) :: st)) : XW p l e R s m args below meth c Q D A KC KS nL h kc ks lv pc st := by
  intro H locs cells slots ls hP hD hS hc1 hs hl
  exact va_gets C.1.1 C.1.2 (C.2.2.2.2.1.2.1 i q hq) hS C.2.1.2 (C.2.2.1 _ hw) (fun _ h9 => h9) d (kk H locs cells slots ls hP hD hS hc1 hs hl)
/-- a table that is a constant static -/
theorem xr_roi (C : XC p R s m args c D E A nL own cc KC KS) (i : Nat) {b N : Nat} {f : Nat → Value} (hq : xs_ro[i]? = some (b, .int, N, f)) {j : Int32} (hin : vp_in j N) {v : Value} (hv : f j.toNatClampNeg = v) (d : decode cc pc = .ok (.iaload, 1))
    (kk : XW p l e R s m args below meth c Q D A KC KS nL h kc ks lv (pc + 1) (v :: st)) : XW p l e R s m args below meth c Q D A KC KS nL h kc ks lv pc (.int j :: .ref (E.2.1 b) :: st) := by
  intro H locs cells slots ls hP hD hS hc1 hs hl
  exact va_ti C.1.1 C.1.2 (C.2.2.2.2.1.2.2.1 i _ hq) hS hin hv d (kk H locs cells slots ls hP hD hS hc1 hs hl)
theorem xr_rolen (C : XC p R s m args c D E A nL own cc KC KS) (i : Nat) {b N : Nat} {ty : FieldType} {f : Nat → Value} (hq : xs_ro[i]? = some (b, ty, N, f)) {v : Int32} (hv : Int32.ofNat N = v) (d : decode cc pc = .ok (.arraylength, 1))
    (kk : XW p l e R s m args below meth c Q D A KC KS nL h kc ks lv (pc + 1) (.int v :: st)) : XW p l e R s m args below meth c Q D A KC KS nL h kc ks lv pc (.ref (E.2.1 b) :: st) := by
  intro H locs cells slots ls hP hD hS hc1 hs hl
  exact va_tlen C.1.1 C.1.2 (C.2.2.2.2.1.2.2.1 i _ hq) hS hv d (kk H locs cells slots ls hP hD hS hc1 hs hl)
/-- arrays -/
theorem xr_alen (C : XC p R s m args c D E A nL own cc KC KS) (t : Nat) {ty : FieldType} (ht : xs_ty[t]? = some ty) {a : Nat} {x : vp_A} (ha : xh_at h a (.inl (E.1 t, x))) {v : Int32} (hv : Int32.ofNat x.1 = v) (d : decode cc pc = .ok (.arraylength, 1))
    (kk : XW p l e R s m args below meth c Q D A KC KS nL h kc ks lv (pc + 1) (.int v :: st)) : XW p l e R s m args below meth c Q D A KC KS nL h kc ks lv pc (.ref a :: st) := by
  intro H locs cells slots ls hP hD hS hc1 hs hl
  obtain ⟨q, hq⟩ := xh_get ha
  exact va_alen C.1.1 C.1.2 C.2.2.2.1 hP q t hq (xe_ty_at t ht) hv d (kk H locs cells slots ls hP hD hS hc1 hs hl)
theorem xr_iald (C : XC p R s m args c D E A nL own cc KC KS) (t : Nat) (ht : xs_ty[t]? = some .int) {a n : Nat} {f : Nat → Int32} (ha : xh_at h a (.inl (E.1 t, n, .inl f))) {i x : Int32} (hin : vp_in i n) (hv : f i.toNatClampNeg = x) (d : decode cc pc = .ok (.iaload, 1))
    (kk : XW p l e R s m args below meth c Q D A KC KS nL h kc ks lv (pc + 1) (.int x :: st)) : XW p l e R s m args below meth c Q D A KC KS nL h kc ks lv pc (.int i :: .ref a :: st) := by
  subst hv
  intro H locs cells slots ls hP hD hS hc1 hs hl
  obtain ⟨q, hq⟩ := xh_get ha
  exact va_iald C.1.1 C.1.2 C.2.2.2.1 hP q t hq (xe_ty_at t ht) hin d (kk H locs cells slots ls hP hD hS hc1 hs hl)
theorem xr_zald (C : XC p R s m args c D E A nL own cc KC KS) (t : Nat) (ht : xs_ty[t]? = some .boolean) {a n : Nat} {f : Nat → Int32} (ha : xh_at h a (.inl (E.1 t, n, .inl f))) {i x : Int32} (hin : vp_in i n) (hv : f i.toNatClampNeg = x) (d : decode cc pc = .ok (.baload, 1))
    (kk : XW p l e R s m args below meth c Q D A KC KS nL h kc ks lv (pc + 1) (.int x :: st)) : XW p l e R s m args below meth c Q D A KC KS nL h kc ks lv pc (.int i :: .ref a :: st) := by
  subst hv
  intro H locs cells slots ls hP hD hS hc1 hs hl
  obtain ⟨q, hq⟩ := xh_get ha
  exact va_zald C.1.1 C.1.2 C.2.2.2.1 hP q t hq (xe_ty_at t ht) hin d (kk H locs cells slots ls hP hD hS hc1 hs hl)
theorem xr_lald (C : XC p R s m args c D E A nL own cc KC KS) (t : Nat) (ht : xs_ty[t]? = some .long) {a n : Nat} {f : Nat → Int64} (ha : xh_at h a (.inl (E.1 t, n, .inr (.inl f)))) {i : Int32} {x : Int64} (hin : vp_in i n) (hv : f i.toNatClampNeg = x) (d : decode cc pc = .ok (.laload, 1))
    (kk : XW p l e R s m args below meth c Q D A KC KS nL h kc ks lv (pc + 1) (.long x :: st)) : XW p l e R s m args below meth c Q D A KC KS nL h kc ks lv pc (.int i :: .ref a :: st) := by
  subst hv
  intro H locs cells slots ls hP hD hS hc1 hs hl
  obtain ⟨q, hq⟩ := xh_get ha
  exact va_lald C.1.1 C.1.2 C.2.2.2.1 hP q t hq (xe_ty_at t ht) hin d (kk H locs cells slots ls hP hD hS hc1 hs hl)
theorem xr_aald (C : XC p R s m args c D E A nL own cc KC KS) (t : Nat) {Cn : String} (ht : xs_ty[t]? = some (.object Cn)) {a n : Nat} {f : Nat → Option Nat} (ha : xh_at h a (.inl (E.1 t, n, .inr (.inr (.inr (.inr f)))))) {i : Int32} {x : Option Nat} (hin : vp_in i n) (hv : f i.toNatClampNeg = x) (d : decode cc pc = .ok (.aaload, 1))
    (kk : XW p l e R s m args below meth c Q D A KC KS nL h kc ks lv (pc + 1) (va_rf x :: st)) : XW p l e R s m args below meth c Q D A KC KS nL h kc ks lv pc (.int i :: .ref a :: st) := by
  subst hv
  intro H locs cells slots ls hP hD hS hc1 hs hl
  obtain ⟨q, hq⟩ := xh_get ha
  exact va_aldq C.1.1 C.1.2 C.2.2.2.1 hP q t hq (xe_ty_at t ht) hin d (kk H locs cells slots ls hP hD hS hc1 hs hl)
theorem xr_iast (C : XC p R s m args c D E A nL own cc KC KS) (t : Nat) (ht : xs_ty[t]? = some .int) {a n : Nat} {f : Nat → Int32} (ha : xh_at h a (.inl (E.1 t, n, .inl f))) {i x : Int32} (hin : vp_in i n) {h1 : Hp} (hh : h1 = xh_set h a (.inl (E.1 t, n, .inl (upd f i.toNatClampNeg x)))) (d : decode cc pc = .ok (.iastore, 1))
    (kk : XW p l e R s m args below meth c Q D A KC KS nL h1 kc ks lv (pc + 1) st) : XW p l e R s m args below meth c Q D A KC KS nL h kc ks lv pc (.int x :: .int i :: .ref a :: st) := by
  subst hh
  intro H locs cells slots ls hP hD hS hc1 hs hl
  obtain ⟨q, hq⟩ := xh_get ha
  refine va_iast C.1.1 C.1.2 C.2.2.2.1 hP hD hS q t hq (xe_ty_at t ht) hin d (fun H1 locs1 hP1 hD1 hS1 => ?_)
  rw [xh_put hD ha hq] at hP1 hD1
  exact kk H1 locs1 cells slots ls hP1 hD1 hS1 hc1 hs hl
theorem xr_zast (C : XC p R s m args c D E A nL own cc KC KS) (t : Nat) (ht : xs_ty[t]? = some .boolean) {a n : Nat} {f : Nat → Int32} (ha : xh_at h a (.inl (E.1 t, n, .inl f))) {i x : Int32} (hin : vp_in i n) {h1 : Hp} (hh : h1 = xh_set h a (.inl (E.1 t, n, .inl (upd f i.toNatClampNeg (vp_nar .boolean x))))) (d : decode cc pc = .ok (.bastore, 1))
    (kk : XW p l e R s m args below meth c Q D A KC KS nL h1 kc ks lv (pc + 1) st) : XW p l e R s m args below meth c Q D A KC KS nL h kc ks lv pc (.int x :: .int i :: .ref a :: st) := by
  subst hh
  intro H locs cells slots ls hP hD hS hc1 hs hl
  obtain ⟨q, hq⟩ := xh_get ha
  refine va_zast C.1.1 C.1.2 C.2.2.2.1 hP hD hS q t hq (xe_ty_at t ht) hin d (fun H1 locs1 hP1 hD1 hS1 => ?_)
  rw [xh_put hD ha hq] at hP1 hD1
  exact kk H1 locs1 cells slots ls hP1 hD1 hS1 hc1 hs hl
theorem xr_last (C : XC p R s m args c D E A nL own cc KC KS) (t : Nat) (ht : xs_ty[t]? = some .long) {a n : Nat} {f : Nat → Int64} (ha : xh_at h a (.inl (E.1 t, n, .inr (.inl f)))) {i : Int32} {x : Int64} (hin : vp_in i n) {h1 : Hp} (hh : h1 = xh_set h a (.inl (E.1 t, n, .inr (.inl (vp_updL f i.toNatClampNeg x))))) (d : decode cc pc = .ok (.lastore, 1))
    (kk : XW p l e R s m args below meth c Q D A KC KS nL h1 kc ks lv (pc + 1) st) : XW p l e R s m args below meth c Q D A KC KS nL h kc ks lv pc (.long x :: .int i :: .ref a :: st) := by
  subst hh
  intro H locs cells slots ls hP hD hS hc1 hs hl
  obtain ⟨q, hq⟩ := xh_get ha
  refine va_last C.1.1 C.1.2 C.2.2.2.1 hP hD hS q t hq (xe_ty_at t ht) hin d (fun H1 locs1 hP1 hD1 hS1 => ?_)
  rw [xh_put hD ha hq] at hP1 hD1
  exact kk H1 locs1 cells slots ls hP1 hD1 hS1 hc1 hs hl
end XH

section XM
variable {p : Program} {l : Launch} {e : Env} {R : Room} {s : State} {m : MethodId} {args : Array Value} {below : List Frame} {meth : Method} {c : Code} {Q : State → Prop} {D : va_G} {E : Ev} {A : Nat → Prop} {KC KS nL : Nat} {own : String} {cc : ByteArray} {h : Hp} {kc ks : Nat} {lv : List (Nat × Value)} {pc : Nat} {st : List Value}
theorem xg_in {ws : List Cond} (h : ∀ w ∈ ws, w ∈ xw_tbl) : GoodIn xw_tbl ws := fun w hw => ⟨h w hw, xw_good w (h w hw)⟩
theorem xg_code {y : MethodName} {bytes : ByteArray} {maxL : Nat} {ret : Option FieldType} (h5 : Cond.code y bytes maxL ret ∈ xw_tbl) : ∀ w ∈ (Cond.code y bytes maxL ret :: xw_tbl), w ∈ xw_tbl := by
  intro w hw
  rcases List.mem_cons.mp hw with rfl | hw
  · exact h5
  · exact hw
theorem xg_V {y : MethodName} {bytes : ByteArray} {maxL idx : Nat} {ret : Option FieldType} {own Cn : String} (h1 : Cond.methodLink own idx y ∈ xw_tbl) (h2 : Cond.instanceMethod y ∈ xw_tbl) (h3 : Cond.selects Cn y y ∈ xw_tbl) (h4 : Cond.initialized Cn ∈ xw_tbl) (h5 : Cond.code y bytes maxL ret ∈ xw_tbl) : GoodIn xw_tbl (wsV own idx Cn y (Cond.code y bytes maxL ret :: xw_tbl)) := by
  refine xg_in (fun w hw => ?_)
  rcases List.mem_append.mp hw with hw | hw
  · rcases List.mem_cons.mp hw with rfl | hw
    · exact h1
    rcases List.mem_cons.mp hw with rfl | hw
    · exact h2
    rcases List.mem_cons.mp hw with rfl | hw
    · exact h3
    rcases List.mem_cons.mp hw with rfl | hw
    · exact h4
    exact absurd hw List.not_mem_nil
  · exact xg_code h5 w hw
theorem xg_S {y : MethodName} {bytes : ByteArray} {maxL idx : Nat} {ret : Option FieldType} {own : String} (h1 : Cond.methodLink own idx y ∈ xw_tbl) (h2 : Cond.static y ∈ xw_tbl) (h4 : Cond.initialized y.cls ∈ xw_tbl) (h5 : Cond.code y bytes maxL ret ∈ xw_tbl) : GoodIn xw_tbl (va_wsS own idx y (Cond.code y bytes maxL ret :: xw_tbl)) := by
  refine xg_in (fun w hw => ?_)
  rcases List.mem_append.mp hw with hw | hw
  · rcases List.mem_cons.mp hw with rfl | hw
    · exact h1
    rcases List.mem_cons.mp hw with rfl | hw
    · exact h2
    rcases List.mem_cons.mp hw with rfl | hw
    · exact h4
    exact absurd hw List.not_mem_nil
  · exact xg_code h5 w hw
theorem xa_free {H0 H : Heap} {locs : List Loc} (hD : va_D A (va_pl h.1 h.2)) (hS : va_S A H0 H locs) (hA : ∀ q, H0.size ≤ q → A q) : ∀ q, XA h H.size q → A q := by
  intro q hq
  rcases hq with ⟨k, x, hk⟩ | hq
  · exact hD.2 k _ hk
  · exact hA q (Nat.le_trans hS.1 hq)
theorem xp_blind {As : List Value} {sz : Nat} : FrameBlind (va_Pc As (XPre D E h sz)) := by
  intro a U g mk q
  obtain ⟨q0, q1, qP, qK, qD, qS⟩ := q
  exact ⟨q0, q1, qP, va_K.moved (u := U) (U := U.calling g mk a) (Vm.Alike.refl U.vm) qK, qD, xe_S.same (u := U) (U := U.calling g mk a) rfl xs_nw_on qS⟩
theorem xp_pre (C : XC p R s m args c D E A nL own cc KC KS) {H : Heap} {locs : List Loc} {As : List Value} (hP : va_P D vwCl (va_pl h.1 h.2) H) (hD : va_D A (va_pl h.1 h.2)) (hS : va_S A s.heap H locs) : ∀ U : State, U.heap = H → s.WarmedH U.vm → va_Pc As (XPre D E h H.size) As.toArray U := by
  intro U hU hW
  refine ⟨rfl, by rw [hU], by rw [hU]; exact hP, va_K.moved hW.alike C.2.2.2.1, hD.weaken (fun _ _ _ _ => trivial), ?_⟩
  rw [hU]
  exact ((C.2.2.2.2.1.2.kept (fun a h1 h2 => hS.2.1 a h1 h2)).warm hW (fun w hw hz => xs_nw_warm w hw hW hz)).narrow (xa_free hD hS C.2.2.2.2.1.1)
theorem xp_recv (C : XC p R s m args c D E A nL own cc KC KS) {H : Heap} {b ci : Nat} {fs : List Value} {r : vw_C} (hP : va_P D vwCl (va_pl h.1 h.2) H) (hb : xh_at h b (.inr (ci, fs))) (hc : vwCl[ci]? = some r) : ∃ cell : Cell, H[b]? = some cell ∧ cell.vm.isStatics = false ∧ s.vm.findClass r.1 = some cell.cls := by
  obtain ⟨q, hq⟩ := xh_get hb
  exact va_recv C.2.2.2.1 hP hc hq
def XMet (l : Launch) (y : MethodName) (bytes : ByteArray) (maxL : Nat) (ret : Option FieldType) (F Lc mc ms : Nat) (D : va_G) (E : Ev) (h : Hp) (As : List Value) (Qf : (Nat → Prop) → Array Value → State → Outcome → State → Prop) : Prop :=
  ∀ sz, Met l y (Cond.code y bytes maxL ret :: xw_tbl) { frames := F, cells := mc, slots := ms, locals := Lc } (va_Pc As (XPre D E h sz)) (Qf (XA h sz)) mc ms (XA h sz)

theorem xr_cVi (C : XC p R s m args c D E A nL own cc KC KS) {y : MethodName} {bytes : ByteArray} {maxL idx F Lc mc ms kc1 ks1 : Nat} {ret : Option FieldType} {As : List Value} {b : Nat} {post : Int32 → Hp → Prop} {stk : List Value} (hM : XMet l y bytes maxL ret F Lc mc ms D E h (.ref b :: As) (fun A => va_Qi post (XPost D A) A)) {Cn : String} {T : u_T} {N ci : Nat} {fs : List Value} (hbo : xh_at h b (.inr (ci, fs))) (hcl : vwCl[ci]? = some (Cn, T, N)) (h1 : Cond.methodLink own idx y ∈ xw_tbl) (h2 : Cond.instanceMethod y ∈ xw_tbl) (h3 : Cond.selects Cn y y ∈ xw_tbl) (h4 : Cond.initialized Cn ∈ xw_tbl) (h5 : Cond.code y bytes maxL ret ∈ xw_tbl) (hd : y.cls = Cn ∧ y.cls ≠ "java/lang/invoke/MethodHandle" ∧ y.cls ≠ "java/lang/invoke/VarHandle" ∧ (parseMethodDescriptor y.desc).map (fun d => d.parameters.length) = some As.length) (hR : F + 1 ≤ R.frames ∧ 8 + (maxL + 11) + Lc ≤ R.locals) (hkc : kc = mc + kc1) (hks : ks = ms + ks1) (hst : stk = As.reverse ++ .ref b :: st) (hroom : (st.map fun v => v.category).sum ≤ 8) (d : decode cc pc = .ok (.invokevirtual idx, 3))
    (kk : ∀ (r : Int32) (h1 : Hp), post r h1 → XW p l e R s m args below meth c Q D A KC KS nL h1 kc1 ks1 lv (pc + 3) (.int r :: st)) : XW p l e R s m args below meth c Q D A KC KS nL h kc ks lv pc stk := by
  intro H locs cells slots ls hP hD hS hc1 hs1 hl
  subst hst
  have hFc := xa_free hD hS C.2.2.2.2.1.1
  have hRc := C.2.2.2.2.2
  refine va_calli (va_runV (As := As) (rest := st) ⟨C.1.1, C.1.2, C.2.1.1, C.2.1.2, C.2.2.1⟩ (hM H.size) (cwV As.length C.2.2.1 (xg_V h1 h2 h3 h4 h5) rfl rfl rfl hd hR) ⟨xp_blind, xp_recv C hP hbo hcl, xp_pre C hP hD hS⟩ rfl rfl hl.1 rfl (lv_room hroom) d ⟨by omega, by omega⟩) hS (fun q _ z => hFc q z) hFc (fun r u t H1 locs1 ht hvm hw hB hz1 hk1 hS1 => ?_)
  obtain ⟨hP1, hD1⟩ := hB
  rw [ht] at hP1
  exact kk r u hw H1 locs1 _ _ ls hP1 (hD1.weaken (fun k q _ z => hFc q.1 z)) hS1 (by omega) (by omega) hl
theorem xr_cVl (C : XC p R s m args c D E A nL own cc KC KS) {y : MethodName} {bytes : ByteArray} {maxL idx F Lc mc ms kc1 ks1 : Nat} {ret : Option FieldType} {As : List Value} {b : Nat} {post : Int64 → Hp → Prop} {stk : List Value} (hM : XMet l y bytes maxL ret F Lc mc ms D E h (.ref b :: As) (fun A => va_Ql post (XPost D A) A)) {Cn : String} {T : u_T} {N ci : Nat} {fs : List Value} (hbo : xh_at h b (.inr (ci, fs))) (hcl : vwCl[ci]? = some (Cn, T, N)) (h1 : Cond.methodLink own idx y ∈ xw_tbl) (h2 : Cond.instanceMethod y ∈ xw_tbl) (h3 : Cond.selects Cn y y ∈ xw_tbl) (h4 : Cond.initialized Cn ∈ xw_tbl) (h5 : Cond.code y bytes maxL ret ∈ xw_tbl) (hd : y.cls = Cn ∧ y.cls ≠ "java/lang/invoke/MethodHandle" ∧ y.cls ≠ "java/lang/invoke/VarHandle" ∧ (parseMethodDescriptor y.desc).map (fun d => d.parameters.length) = some As.length) (hR : F + 1 ≤ R.frames ∧ 8 + (maxL + 11) + Lc ≤ R.locals) (hkc : kc = mc + kc1) (hks : ks = ms + ks1) (hst : stk = As.reverse ++ .ref b :: st) (hroom : (st.map fun v => v.category).sum ≤ 8) (d : decode cc pc = .ok (.invokevirtual idx, 3))
    (kk : ∀ (r : Int64) (h1 : Hp), post r h1 → XW p l e R s m args below meth c Q D A KC KS nL h1 kc1 ks1 lv (pc + 3) (.long r :: st)) : XW p l e R s m args below meth c Q D A KC KS nL h kc ks lv pc stk := by
  intro H locs cells slots ls hP hD hS hc1 hs1 hl
  subst hst
  have hFc := xa_free hD hS C.2.2.2.2.1.1
  have hRc := C.2.2.2.2.2
  refine va_calll (va_runV (As := As) (rest := st) ⟨C.1.1, C.1.2, C.2.1.1, C.2.1.2, C.2.2.1⟩ (hM H.size) (cwV As.length C.2.2.1 (xg_V h1 h2 h3 h4 h5) rfl rfl rfl hd hR) ⟨xp_blind, xp_recv C hP hbo hcl, xp_pre C hP hD hS⟩ rfl rfl hl.1 rfl (lv_room hroom) d ⟨by omega, by omega⟩) hS (fun q _ z => hFc q z) hFc (fun r u t H1 locs1 ht hvm hw hB hz1 hk1 hS1 => ?_)
  obtain ⟨hP1, hD1⟩ := hB
  rw [ht] at hP1
  exact kk r u hw H1 locs1 _ _ ls hP1 (hD1.weaken (fun k q _ z => hFc q.1 z)) hS1 (by omega) (by omega) hl
theorem xr_cVq (C : XC p R s m args c D E A nL own cc KC KS) {y : MethodName} {bytes : ByteArray} {maxL idx F Lc mc ms kc1 ks1 : Nat} {ret : Option FieldType} {As : List Value} {b : Nat} {post : Option Nat → Hp → Prop} {stk : List Value} (hM : XMet l y bytes maxL ret F Lc mc ms D E h (.ref b :: As) (fun A => va_Qq post (XPost D A) A)) {Cn : String} {T : u_T} {N ci : Nat} {fs : List Value} (hbo : xh_at h b (.inr (ci, fs))) (hcl : vwCl[ci]? = some (Cn, T, N)) (h1 : Cond.methodLink own idx y ∈ xw_tbl) (h2 : Cond.instanceMethod y ∈ xw_tbl) (h3 : Cond.selects Cn y y ∈ xw_tbl) (h4 : Cond.initialized Cn ∈ xw_tbl) (h5 : Cond.code y bytes maxL ret ∈ xw_tbl) (hd : y.cls = Cn ∧ y.cls ≠ "java/lang/invoke/MethodHandle" ∧ y.cls ≠ "java/lang/invoke/VarHandle" ∧ (parseMethodDescriptor y.desc).map (fun d => d.parameters.length) = some As.length) (hR : F + 1 ≤ R.frames ∧ 8 + (maxL + 11) + Lc ≤ R.locals) (hkc : kc = mc + kc1) (hks : ks = ms + ks1) (hst : stk = As.reverse ++ .ref b :: st) (hroom : (st.map fun v => v.category).sum ≤ 8) (d : decode cc pc = .ok (.invokevirtual idx, 3))
    (kk : ∀ (r : Option Nat) (h1 : Hp), post r h1 → XW p l e R s m args below meth c Q D A KC KS nL h1 kc1 ks1 lv (pc + 3) (va_rf r :: st)) : XW p l e R s m args below meth c Q D A KC KS nL h kc ks lv pc stk := by
  intro H locs cells slots ls hP hD hS hc1 hs1 hl
  subst hst
  have hFc := xa_free hD hS C.2.2.2.2.1.1
  have hRc := C.2.2.2.2.2
  refine va_callq (va_runV (As := As) (rest := st) ⟨C.1.1, C.1.2, C.2.1.1, C.2.1.2, C.2.2.1⟩ (hM H.size) (cwV As.length C.2.2.1 (xg_V h1 h2 h3 h4 h5) rfl rfl rfl hd hR) ⟨xp_blind, xp_recv C hP hbo hcl, xp_pre C hP hD hS⟩ rfl rfl hl.1 rfl (lv_room hroom) d ⟨by omega, by omega⟩) hS (fun q _ z => hFc q z) hFc (fun r u t H1 locs1 ht hvm hw hB hz1 hk1 hS1 => ?_)
  obtain ⟨hP1, hD1⟩ := hB
  rw [ht] at hP1
  exact kk r u hw H1 locs1 _ _ ls hP1 (hD1.weaken (fun k q _ z => hFc q.1 z)) hS1 (by omega) (by omega) hl
theorem xr_cVv (C : XC p R s m args c D E A nL own cc KC KS) {y : MethodName} {bytes : ByteArray} {maxL idx F Lc mc ms kc1 ks1 : Nat} {ret : Option FieldType} {As : List Value} {b : Nat} {post : Hp → Prop} {stk : List Value} (hM : XMet l y bytes maxL ret F Lc mc ms D E h (.ref b :: As) (fun A => va_Qv post (XPost D A) A)) {Cn : String} {T : u_T} {N ci : Nat} {fs : List Value} (hbo : xh_at h b (.inr (ci, fs))) (hcl : vwCl[ci]? = some (Cn, T, N)) (h1 : Cond.methodLink own idx y ∈ xw_tbl) (h2 : Cond.instanceMethod y ∈ xw_tbl) (h3 : Cond.selects Cn y y ∈ xw_tbl) (h4 : Cond.initialized Cn ∈ xw_tbl) (h5 : Cond.code y bytes maxL ret ∈ xw_tbl) (hd : y.cls = Cn ∧ y.cls ≠ "java/lang/invoke/MethodHandle" ∧ y.cls ≠ "java/lang/invoke/VarHandle" ∧ (parseMethodDescriptor y.desc).map (fun d => d.parameters.length) = some As.length) (hR : F + 1 ≤ R.frames ∧ 8 + (maxL + 11) + Lc ≤ R.locals) (hkc : kc = mc + kc1) (hks : ks = ms + ks1) (hst : stk = As.reverse ++ .ref b :: st) (hroom : (st.map fun v => v.category).sum ≤ 8) (d : decode cc pc = .ok (.invokevirtual idx, 3))
    (kk : ∀ (h1 : Hp), post h1 → XW p l e R s m args below meth c Q D A KC KS nL h1 kc1 ks1 lv (pc + 3) (st)) : XW p l e R s m args below meth c Q D A KC KS nL h kc ks lv pc stk := by
  intro H locs cells slots ls hP hD hS hc1 hs1 hl
  subst hst
  have hFc := xa_free hD hS C.2.2.2.2.1.1
  have hRc := C.2.2.2.2.2
  refine va_callv (va_runV (As := As) (rest := st) ⟨C.1.1, C.1.2, C.2.1.1, C.2.1.2, C.2.2.1⟩ (hM H.size) (cwV As.length C.2.2.1 (xg_V h1 h2 h3 h4 h5) rfl rfl rfl hd hR) ⟨xp_blind, xp_recv C hP hbo hcl, xp_pre C hP hD hS⟩ rfl rfl hl.1 rfl (lv_room hroom) d ⟨by omega, by omega⟩) hS (fun q _ z => hFc q z) hFc (fun u t H1 locs1 ht hvm hw hB hz1 hk1 hS1 => ?_)
  obtain ⟨hP1, hD1⟩ := hB
  rw [ht] at hP1
  exact kk u hw H1 locs1 _ _ ls hP1 (hD1.weaken (fun k q _ z => hFc q.1 z)) hS1 (by omega) (by omega) hl
theorem xr_cSi (C : XC p R s m args c D E A nL own cc KC KS) {y : MethodName} {bytes : ByteArray} {maxL idx F Lc mc ms kc1 ks1 : Nat} {ret : Option FieldType} {As : List Value} {post : Int32 → Hp → Prop} {stk : List Value} (hM : XMet l y bytes maxL ret F Lc mc ms D E h As (fun A => va_Qi post (XPost D A) A)) (h1 : Cond.methodLink own idx y ∈ xw_tbl) (h2 : Cond.static y ∈ xw_tbl) (h4 : Cond.initialized y.cls ∈ xw_tbl) (h5 : Cond.code y bytes maxL ret ∈ xw_tbl) (hd : y.cls ≠ "java/lang/invoke/MethodHandle" ∧ y.cls ≠ "java/lang/invoke/VarHandle" ∧ (parseMethodDescriptor y.desc).map (fun d => d.parameters.length) = some As.length) (hR : F + 1 ≤ R.frames ∧ 8 + (maxL + 11) + Lc ≤ R.locals) (hkc : kc = mc + kc1) (hks : ks = ms + ks1) (hst : stk = As.reverse ++ st) (hroom : (st.map fun v => v.category).sum ≤ 8) (d : decode cc pc = .ok (.invokestatic idx, 3))
    (kk : ∀ (r : Int32) (h1 : Hp), post r h1 → XW p l e R s m args below meth c Q D A KC KS nL h1 kc1 ks1 lv (pc + 3) (.int r :: st)) : XW p l e R s m args below meth c Q D A KC KS nL h kc ks lv pc stk := by
  intro H locs cells slots ls hP hD hS hc1 hs1 hl
  subst hst
  have hFc := xa_free hD hS C.2.2.2.2.1.1
  have hRc := C.2.2.2.2.2
  refine va_calli (va_runS (As := As) (rest := st) ⟨C.1.1, C.1.2, C.2.1.1, C.2.1.2, C.2.2.1⟩ (hM H.size) (va_cwS As.length C.2.2.1 (xg_S h1 h2 h4 h5) rfl rfl rfl hd hR) ⟨xp_blind, xp_pre C hP hD hS⟩ rfl rfl hl.1 rfl (lv_room hroom) d ⟨by omega, by omega⟩) hS (fun q _ z => hFc q z) hFc (fun r u t H1 locs1 ht hvm hw hB hz1 hk1 hS1 => ?_)
  obtain ⟨hP1, hD1⟩ := hB
  rw [ht] at hP1
  exact kk r u hw H1 locs1 _ _ ls hP1 (hD1.weaken (fun k q _ z => hFc q.1 z)) hS1 (by omega) (by omega) hl
theorem xr_cSl (C : XC p R s m args c D E A nL own cc KC KS) {y : MethodName} {bytes : ByteArray} {maxL idx F Lc mc ms kc1 ks1 : Nat} {ret : Option FieldType} {As : List Value} {post : Int64 → Hp → Prop} {stk : List Value} (hM : XMet l y bytes maxL ret F Lc mc ms D E h As (fun A => va_Ql post (XPost D A) A)) (h1 : Cond.methodLink own idx y ∈ xw_tbl) (h2 : Cond.static y ∈ xw_tbl) (h4 : Cond.initialized y.cls ∈ xw_tbl) (h5 : Cond.code y bytes maxL ret ∈ xw_tbl) (hd : y.cls ≠ "java/lang/invoke/MethodHandle" ∧ y.cls ≠ "java/lang/invoke/VarHandle" ∧ (parseMethodDescriptor y.desc).map (fun d => d.parameters.length) = some As.length) (hR : F + 1 ≤ R.frames ∧ 8 + (maxL + 11) + Lc ≤ R.locals) (hkc : kc = mc + kc1) (hks : ks = ms + ks1) (hst : stk = As.reverse ++ st) (hroom : (st.map fun v => v.category).sum ≤ 8) (d : decode cc pc = .ok (.invokestatic idx, 3))
    (kk : ∀ (r : Int64) (h1 : Hp), post r h1 → XW p l e R s m args below meth c Q D A KC KS nL h1 kc1 ks1 lv (pc + 3) (.long r :: st)) : XW p l e R s m args below meth c Q D A KC KS nL h kc ks lv pc stk := by
  intro H locs cells slots ls hP hD hS hc1 hs1 hl
  subst hst
  have hFc := xa_free hD hS C.2.2.2.2.1.1
  have hRc := C.2.2.2.2.2
  refine va_calll (va_runS (As := As) (rest := st) ⟨C.1.1, C.1.2, C.2.1.1, C.2.1.2, C.2.2.1⟩ (hM H.size) (va_cwS As.length C.2.2.1 (xg_S h1 h2 h4 h5) rfl rfl rfl hd hR) ⟨xp_blind, xp_pre C hP hD hS⟩ rfl rfl hl.1 rfl (lv_room hroom) d ⟨by omega, by omega⟩) hS (fun q _ z => hFc q z) hFc (fun r u t H1 locs1 ht hvm hw hB hz1 hk1 hS1 => ?_)
  obtain ⟨hP1, hD1⟩ := hB
  rw [ht] at hP1
  exact kk r u hw H1 locs1 _ _ ls hP1 (hD1.weaken (fun k q _ z => hFc q.1 z)) hS1 (by omega) (by omega) hl
theorem xr_cSq (C : XC p R s m args c D E A nL own cc KC KS) {y : MethodName} {bytes : ByteArray} {maxL idx F Lc mc ms kc1 ks1 : Nat} {ret : Option FieldType} {As : List Value} {post : Option Nat → Hp → Prop} {stk : List Value} (hM : XMet l y bytes maxL ret F Lc mc ms D E h As (fun A => va_Qq post (XPost D A) A)) (h1 : Cond.methodLink own idx y ∈ xw_tbl) (h2 : Cond.static y ∈ xw_tbl) (h4 : Cond.initialized y.cls ∈ xw_tbl) (h5 : Cond.code y bytes maxL ret ∈ xw_tbl) (hd : y.cls ≠ "java/lang/invoke/MethodHandle" ∧ y.cls ≠ "java/lang/invoke/VarHandle" ∧ (parseMethodDescriptor y.desc).map (fun d => d.parameters.length) = some As.length) (hR : F + 1 ≤ R.frames ∧ 8 + (maxL + 11) + Lc ≤ R.locals) (hkc : kc = mc + kc1) (hks : ks = ms + ks1) (hst : stk = As.reverse ++ st) (hroom : (st.map fun v => v.category).sum ≤ 8) (d : decode cc pc = .ok (.invokestatic idx, 3))
    (kk : ∀ (r : Option Nat) (h1 : Hp), post r h1 → XW p l e R s m args below meth c Q D A KC KS nL h1 kc1 ks1 lv (pc + 3) (va_rf r :: st)) : XW p l e R s m args below meth c Q D A KC KS nL h kc ks lv pc stk := by
  intro H locs cells slots ls hP hD hS hc1 hs1 hl
  subst hst
  have hFc := xa_free hD hS C.2.2.2.2.1.1
  have hRc := C.2.2.2.2.2
  refine va_callq (va_runS (As := As) (rest := st) ⟨C.1.1, C.1.2, C.2.1.1, C.2.1.2, C.2.2.1⟩ (hM H.size) (va_cwS As.length C.2.2.1 (xg_S h1 h2 h4 h5) rfl rfl rfl hd hR) ⟨xp_blind, xp_pre C hP hD hS⟩ rfl rfl hl.1 rfl (lv_room hroom) d ⟨by omega, by omega⟩) hS (fun q _ z => hFc q z) hFc (fun r u t H1 locs1 ht hvm hw hB hz1 hk1 hS1 => ?_)
  obtain ⟨hP1, hD1⟩ := hB
  rw [ht] at hP1
  exact kk r u hw H1 locs1 _ _ ls hP1 (hD1.weaken (fun k q _ z => hFc q.1 z)) hS1 (by omega) (by omega) hl
theorem xr_cSv (C : XC p R s m args c D E A nL own cc KC KS) {y : MethodName} {bytes : ByteArray} {maxL idx F Lc mc ms kc1 ks1 : Nat} {ret : Option FieldType} {As : List Value} {post : Hp → Prop} {stk : List Value} (hM : XMet l y bytes maxL ret F Lc mc ms D E h As (fun A => va_Qv post (XPost D A) A)) (h1 : Cond.methodLink own idx y ∈ xw_tbl) (h2 : Cond.static y ∈ xw_tbl) (h4 : Cond.initialized y.cls ∈ xw_tbl) (h5 : Cond.code y bytes maxL ret ∈ xw_tbl) (hd : y.cls ≠ "java/lang/invoke/MethodHandle" ∧ y.cls ≠ "java/lang/invoke/VarHandle" ∧ (parseMethodDescriptor y.desc).map (fun d => d.parameters.length) = some As.length) (hR : F + 1 ≤ R.frames ∧ 8 + (maxL + 11) + Lc ≤ R.locals) (hkc : kc = mc + kc1) (hks : ks = ms + ks1) (hst : stk = As.reverse ++ st) (hroom : (st.map fun v => v.category).sum ≤ 8) (d : decode cc pc = .ok (.invokestatic idx, 3))
    (kk : ∀ (h1 : Hp), post h1 → XW p l e R s m args below meth c Q D A KC KS nL h1 kc1 ks1 lv (pc + 3) (st)) : XW p l e R s m args below meth c Q D A KC KS nL h kc ks lv pc stk := by
  intro H locs cells slots ls hP hD hS hc1 hs1 hl
  subst hst
  have hFc := xa_free hD hS C.2.2.2.2.1.1
  have hRc := C.2.2.2.2.2
  refine va_callv (va_runS (As := As) (rest := st) ⟨C.1.1, C.1.2, C.2.1.1, C.2.1.2, C.2.2.1⟩ (hM H.size) (va_cwS As.length C.2.2.1 (xg_S h1 h2 h4 h5) rfl rfl rfl hd hR) ⟨xp_blind, xp_pre C hP hD hS⟩ rfl rfl hl.1 rfl (lv_room hroom) d ⟨by omega, by omega⟩) hS (fun q _ z => hFc q z) hFc (fun u t H1 locs1 ht hvm hw hB hz1 hk1 hS1 => ?_)
  obtain ⟨hP1, hD1⟩ := hB
  rw [ht] at hP1
  exact kk u hw H1 locs1 _ _ ls hP1 (hD1.weaken (fun k q _ z => hFc q.1 z)) hS1 (by omega) (by omega) hl
theorem xr_cIv (C : XC p R s m args c D E A nL own cc KC KS) {y : MethodName} {bytes : ByteArray} {maxL idx F Lc mc ms kc1 ks1 : Nat} {As : List Value} {b : Nat} {post : Hp → Prop} {stk : List Value} (hM : XMet l y bytes maxL none F Lc mc ms D E h (.ref b :: As) (fun A => va_Qv post (XPost D A) A)) (h1 : Cond.methodLink own idx y ∈ xw_tbl) (h2 : Cond.instanceMethod y ∈ xw_tbl) (h4 : Cond.initialized y.cls ∈ xw_tbl) (h5 : Cond.code y bytes maxL none ∈ xw_tbl) (hy1 : y.name = "<init>") (hd : y.cls ≠ "java/lang/invoke/MethodHandle" ∧ y.cls ≠ "java/lang/invoke/VarHandle" ∧ (parseMethodDescriptor y.desc).map (fun d => d.parameters.length) = some As.length) (hR : F + 1 ≤ R.frames ∧ 8 + (maxL + 11) + Lc ≤ R.locals) (hkc : kc = mc + kc1) (hks : ks = ms + ks1) (hst : stk = As.reverse ++ .ref b :: st) (hroom : (st.map fun v => v.category).sum ≤ 8) (d : decode cc pc = .ok (.invokespecial idx, 3))
    (kk : ∀ (h1 : Hp), post h1 → XW p l e R s m args below meth c Q D A KC KS nL h1 kc1 ks1 lv (pc + 3) (st)) : XW p l e R s m args below meth c Q D A KC KS nL h kc ks lv pc stk := by
  intro H locs cells slots ls hP hD hS hc1 hs1 hl
  subst hst
  have hFc := xa_free hD hS C.2.2.2.2.1.1
  have hRc := C.2.2.2.2.2
  refine va_callv (va_runI (As := As) (rest := st) ⟨C.1.1, C.1.2, C.2.1.1, C.2.1.2, C.2.2.1⟩ (hM H.size) (cwI As.length C.2.2.1 (xg_in (xg_code h5)) rfl rfl rfl (C.2.2.1 _ h4) (C.2.2.1 _ h1) (C.2.2.1 _ h2) hy1 hd hR) ⟨xp_blind, xp_pre C hP hD hS⟩ rfl rfl hl.1 rfl (lv_room hroom) d ⟨by omega, by omega⟩) hS (fun q _ z => hFc q z) hFc (fun u t H1 locs1 ht hvm hw hB hz1 hk1 hS1 => ?_)
  obtain ⟨hP1, hD1⟩ := hB
  rw [ht] at hP1
  exact kk u hw H1 locs1 _ _ ls hP1 (hD1.weaken (fun k q _ z => hFc q.1 z)) hS1 (by omega) (by omega) hl
theorem xr_cVNi (C : XC p R s m args c D E A nL own cc KC KS) {y : MethodName} {bytes : ByteArray} {maxL idx F Lc mc ms kc1 ks1 : Nat} {ret : Option FieldType} {As : List Value} {b : Nat} {post : Int32 → Hp → Prop} {stk : List Value} (hM : XMet l y bytes maxL ret F Lc mc ms D E h (.ref b :: As) (fun A => va_Qi post (XPost D A) A)) {Cn : String} {T : u_T} {N ci : Nat} {fs : List Value} {host : String} (hbo : xh_at h b (.inr (ci, fs))) (hcl : vwCl[ci]? = some (Cn, T, N)) (h1 : Cond.methodLinkNest own idx y host ∈ xs_nw) (h2 : Cond.instanceMethod y ∈ xw_tbl) (h3 : Cond.selects Cn y y ∈ xw_tbl) (h4 : Cond.initialized y.cls ∈ xw_tbl) (h5 : Cond.code y bytes maxL ret ∈ xw_tbl) (hd : y.cls ≠ "java/lang/invoke/MethodHandle" ∧ y.cls ≠ "java/lang/invoke/VarHandle" ∧ (parseMethodDescriptor y.desc).map (fun d => d.parameters.length) = some As.length) (hR : F + 1 ≤ R.frames ∧ 8 + (maxL + 11) + Lc ≤ R.locals) (hkc : kc = mc + kc1) (hks : ks = ms + ks1) (hst : stk = As.reverse ++ .ref b :: st) (hroom : (st.map fun v => v.category).sum ≤ 8) (d : decode cc pc = .ok (.invokevirtual idx, 3))
    (kk : ∀ (r : Int32) (h1 : Hp), post r h1 → XW p l e R s m args below meth c Q D A KC KS nL h1 kc1 ks1 lv (pc + 3) (.int r :: st)) : XW p l e R s m args below meth c Q D A KC KS nL h kc ks lv pc stk := by
  intro H locs cells slots ls hP hD hS hc1 hs1 hl
  subst hst
  have hFc := xa_free hD hS C.2.2.2.2.1.1
  have hRc := C.2.2.2.2.2
  refine va_calli (va_runVN (As := As) (rest := st) ⟨C.1.1, C.1.2, C.2.1.1, C.2.1.2, C.2.2.1⟩ (hM H.size) ⟨va_cnB As.length C.2.2.1 (xg_in (xg_code h5)) rfl rfl rfl (C.2.2.2.2.1.2.2.2.2.2 _ h1) (C.2.2.1 _ h4) hd hR, C.2.2.1 _ h2, C.2.2.1 _ h3⟩ ⟨xp_blind, xp_recv C hP hbo hcl, xp_pre C hP hD hS⟩ rfl rfl hl.1 rfl (lv_room hroom) d ⟨by omega, by omega⟩) hS (fun q _ z => hFc q z) hFc (fun r u t H1 locs1 ht hvm hw hB hz1 hk1 hS1 => ?_)
  obtain ⟨hP1, hD1⟩ := hB
  rw [ht] at hP1
  exact kk r u hw H1 locs1 _ _ ls hP1 (hD1.weaken (fun k q _ z => hFc q.1 z)) hS1 (by omega) (by omega) hl
theorem xr_cVNl (C : XC p R s m args c D E A nL own cc KC KS) {y : MethodName} {bytes : ByteArray} {maxL idx F Lc mc ms kc1 ks1 : Nat} {ret : Option FieldType} {As : List Value} {b : Nat} {post : Int64 → Hp → Prop} {stk : List Value} (hM : XMet l y bytes maxL ret F Lc mc ms D E h (.ref b :: As) (fun A => va_Ql post (XPost D A) A)) {Cn : String} {T : u_T} {N ci : Nat} {fs : List Value} {host : String} (hbo : xh_at h b (.inr (ci, fs))) (hcl : vwCl[ci]? = some (Cn, T, N)) (h1 : Cond.methodLinkNest own idx y host ∈ xs_nw) (h2 : Cond.instanceMethod y ∈ xw_tbl) (h3 : Cond.selects Cn y y ∈ xw_tbl) (h4 : Cond.initialized y.cls ∈ xw_tbl) (h5 : Cond.code y bytes maxL ret ∈ xw_tbl) (hd : y.cls ≠ "java/lang/invoke/MethodHandle" ∧ y.cls ≠ "java/lang/invoke/VarHandle" ∧ (parseMethodDescriptor y.desc).map (fun d => d.parameters.length) = some As.length) (hR : F + 1 ≤ R.frames ∧ 8 + (maxL + 11) + Lc ≤ R.locals) (hkc : kc = mc + kc1) (hks : ks = ms + ks1) (hst : stk = As.reverse ++ .ref b :: st) (hroom : (st.map fun v => v.category).sum ≤ 8) (d : decode cc pc = .ok (.invokevirtual idx, 3))
    (kk : ∀ (r : Int64) (h1 : Hp), post r h1 → XW p l e R s m args below meth c Q D A KC KS nL h1 kc1 ks1 lv (pc + 3) (.long r :: st)) : XW p l e R s m args below meth c Q D A KC KS nL h kc ks lv pc stk := by
  intro H locs cells slots ls hP hD hS hc1 hs1 hl
  subst hst
  have hFc := xa_free hD hS C.2.2.2.2.1.1
  have hRc := C.2.2.2.2.2
  refine va_calll (va_runVN (As := As) (rest := st) ⟨C.1.1, C.1.2, C.2.1.1, C.2.1.2, C.2.2.1⟩ (hM H.size) ⟨va_cnB As.length C.2.2.1 (xg_in (xg_code h5)) rfl rfl rfl (C.2.2.2.2.1.2.2.2.2.2 _ h1) (C.2.2.1 _ h4) hd hR, C.2.2.1 _ h2, C.2.2.1 _ h3⟩ ⟨xp_blind, xp_recv C hP hbo hcl, xp_pre C hP hD hS⟩ rfl rfl hl.1 rfl (lv_room hroom) d ⟨by omega, by omega⟩) hS (fun q _ z => hFc q z) hFc (fun r u t H1 locs1 ht hvm hw hB hz1 hk1 hS1 => ?_)
  obtain ⟨hP1, hD1⟩ := hB
  rw [ht] at hP1
  exact kk r u hw H1 locs1 _ _ ls hP1 (hD1.weaken (fun k q _ z => hFc q.1 z)) hS1 (by omega) (by omega) hl
theorem xr_cVNq (C : XC p R s m args c D E A nL own cc KC KS) {y : MethodName} {bytes : ByteArray} {maxL idx F Lc mc ms kc1 ks1 : Nat} {ret : Option FieldType} {As : List Value} {b : Nat} {post : Option Nat → Hp → Prop} {stk : List Value} (hM : XMet l y bytes maxL ret F Lc mc ms D E h (.ref b :: As) (fun A => va_Qq post (XPost D A) A)) {Cn : String} {T : u_T} {N ci : Nat} {fs : List Value} {host : String} (hbo : xh_at h b (.inr (ci, fs))) (hcl : vwCl[ci]? = some (Cn, T, N)) (h1 : Cond.methodLinkNest own idx y host ∈ xs_nw) (h2 : Cond.instanceMethod y ∈ xw_tbl) (h3 : Cond.selects Cn y y ∈ xw_tbl) (h4 : Cond.initialized y.cls ∈ xw_tbl) (h5 : Cond.code y bytes maxL ret ∈ xw_tbl) (hd : y.cls ≠ "java/lang/invoke/MethodHandle" ∧ y.cls ≠ "java/lang/invoke/VarHandle" ∧ (parseMethodDescriptor y.desc).map (fun d => d.parameters.length) = some As.length) (hR : F + 1 ≤ R.frames ∧ 8 + (maxL + 11) + Lc ≤ R.locals) (hkc : kc = mc + kc1) (hks : ks = ms + ks1) (hst : stk = As.reverse ++ .ref b :: st) (hroom : (st.map fun v => v.category).sum ≤ 8) (d : decode cc pc = .ok (.invokevirtual idx, 3))
    (kk : ∀ (r : Option Nat) (h1 : Hp), post r h1 → XW p l e R s m args below meth c Q D A KC KS nL h1 kc1 ks1 lv (pc + 3) (va_rf r :: st)) : XW p l e R s m args below meth c Q D A KC KS nL h kc ks lv pc stk := by
  intro H locs cells slots ls hP hD hS hc1 hs1 hl
  subst hst
  have hFc := xa_free hD hS C.2.2.2.2.1.1
  have hRc := C.2.2.2.2.2
  refine va_callq (va_runVN (As := As) (rest := st) ⟨C.1.1, C.1.2, C.2.1.1, C.2.1.2, C.2.2.1⟩ (hM H.size) ⟨va_cnB As.length C.2.2.1 (xg_in (xg_code h5)) rfl rfl rfl (C.2.2.2.2.1.2.2.2.2.2 _ h1) (C.2.2.1 _ h4) hd hR, C.2.2.1 _ h2, C.2.2.1 _ h3⟩ ⟨xp_blind, xp_recv C hP hbo hcl, xp_pre C hP hD hS⟩ rfl rfl hl.1 rfl (lv_room hroom) d ⟨by omega, by omega⟩) hS (fun q _ z => hFc q z) hFc (fun r u t H1 locs1 ht hvm hw hB hz1 hk1 hS1 => ?_)
  obtain ⟨hP1, hD1⟩ := hB
  rw [ht] at hP1
  exact kk r u hw H1 locs1 _ _ ls hP1 (hD1.weaken (fun k q _ z => hFc q.1 z)) hS1 (by omega) (by omega) hl
theorem xr_cVNv (C : XC p R s m args c D E A nL own cc KC KS) {y : MethodName} {bytes : ByteArray} {maxL idx F Lc mc ms kc1 ks1 : Nat} {ret : Option FieldType} {As : List Value} {b : Nat} {post : Hp → Prop} {stk : List Value} (hM : XMet l y bytes maxL ret F Lc mc ms D E h (.ref b :: As) (fun A => va_Qv post (XPost D A) A)) {Cn : String} {T : u_T} {N ci : Nat} {fs : List Value} {host : String} (hbo : xh_at h b (.inr (ci, fs))) (hcl : vwCl[ci]? = some (Cn, T, N)) (h1 : Cond.methodLinkNest own idx y host ∈ xs_nw) (h2 : Cond.instanceMethod y ∈ xw_tbl) (h3 : Cond.selects Cn y y ∈ xw_tbl) (h4 : Cond.initialized y.cls ∈ xw_tbl) (h5 : Cond.code y bytes maxL ret ∈ xw_tbl) (hd : y.cls ≠ "java/lang/invoke/MethodHandle" ∧ y.cls ≠ "java/lang/invoke/VarHandle" ∧ (parseMethodDescriptor y.desc).map (fun d => d.parameters.length) = some As.length) (hR : F + 1 ≤ R.frames ∧ 8 + (maxL + 11) + Lc ≤ R.locals) (hkc : kc = mc + kc1) (hks : ks = ms + ks1) (hst : stk = As.reverse ++ .ref b :: st) (hroom : (st.map fun v => v.category).sum ≤ 8) (d : decode cc pc = .ok (.invokevirtual idx, 3))
    (kk : ∀ (h1 : Hp), post h1 → XW p l e R s m args below meth c Q D A KC KS nL h1 kc1 ks1 lv (pc + 3) (st)) : XW p l e R s m args below meth c Q D A KC KS nL h kc ks lv pc stk := by
  intro H locs cells slots ls hP hD hS hc1 hs1 hl
  subst hst
  have hFc := xa_free hD hS C.2.2.2.2.1.1
  have hRc := C.2.2.2.2.2
  refine va_callv (va_runVN (As := As) (rest := st) ⟨C.1.1, C.1.2, C.2.1.1, C.2.1.2, C.2.2.1⟩ (hM H.size) ⟨va_cnB As.length C.2.2.1 (xg_in (xg_code h5)) rfl rfl rfl (C.2.2.2.2.1.2.2.2.2.2 _ h1) (C.2.2.1 _ h4) hd hR, C.2.2.1 _ h2, C.2.2.1 _ h3⟩ ⟨xp_blind, xp_recv C hP hbo hcl, xp_pre C hP hD hS⟩ rfl rfl hl.1 rfl (lv_room hroom) d ⟨by omega, by omega⟩) hS (fun q _ z => hFc q z) hFc (fun u t H1 locs1 ht hvm hw hB hz1 hk1 hS1 => ?_)
  obtain ⟨hP1, hD1⟩ := hB
  rw [ht] at hP1
  exact kk u hw H1 locs1 _ _ ls hP1 (hD1.weaken (fun k q _ z => hFc q.1 z)) hS1 (by omega) (by omega) hl
theorem xr_cINv (C : XC p R s m args c D E A nL own cc KC KS) {y : MethodName} {bytes : ByteArray} {maxL idx F Lc mc ms kc1 ks1 : Nat} {As : List Value} {b : Nat} {post : Hp → Prop} {stk : List Value} (hM : XMet l y bytes maxL none F Lc mc ms D E h (.ref b :: As) (fun A => va_Qv post (XPost D A) A)) {host : String} (h1 : Cond.methodLinkNest own idx y host ∈ xs_nw) (h2 : Cond.instanceMethod y ∈ xw_tbl) (h4 : Cond.initialized y.cls ∈ xw_tbl) (h5 : Cond.code y bytes maxL none ∈ xw_tbl) (hy1 : y.name = "<init>") (hd : y.cls ≠ "java/lang/invoke/MethodHandle" ∧ y.cls ≠ "java/lang/invoke/VarHandle" ∧ (parseMethodDescriptor y.desc).map (fun d => d.parameters.length) = some As.length) (hR : F + 1 ≤ R.frames ∧ 8 + (maxL + 11) + Lc ≤ R.locals) (hkc : kc = mc + kc1) (hks : ks = ms + ks1) (hst : stk = As.reverse ++ .ref b :: st) (hroom : (st.map fun v => v.category).sum ≤ 8) (d : decode cc pc = .ok (.invokespecial idx, 3))
    (kk : ∀ (h1 : Hp), post h1 → XW p l e R s m args below meth c Q D A KC KS nL h1 kc1 ks1 lv (pc + 3) (st)) : XW p l e R s m args below meth c Q D A KC KS nL h kc ks lv pc stk := by
  intro H locs cells slots ls hP hD hS hc1 hs1 hl
  subst hst
  have hFc := xa_free hD hS C.2.2.2.2.1.1
  have hRc := C.2.2.2.2.2
  refine va_callv (va_runIN (As := As) (rest := st) ⟨C.1.1, C.1.2, C.2.1.1, C.2.1.2, C.2.2.1⟩ (hM H.size) ⟨va_cnB As.length C.2.2.1 (xg_in (xg_code h5)) rfl rfl rfl (C.2.2.2.2.1.2.2.2.2.2 _ h1) (C.2.2.1 _ h4) hd hR, hy1, C.2.2.1 _ h2⟩ ⟨xp_blind, xp_pre C hP hD hS⟩ rfl rfl hl.1 rfl (lv_room hroom) d ⟨by omega, by omega⟩) hS (fun q _ z => hFc q z) hFc (fun u t H1 locs1 ht hvm hw hB hz1 hk1 hS1 => ?_)
  obtain ⟨hP1, hD1⟩ := hB
  rw [ht] at hP1
  exact kk u hw H1 locs1 _ _ ls hP1 (hD1.weaken (fun k q _ z => hFc q.1 z)) hS1 (by omega) (by omega) hl
theorem xr_cSNi (C : XC p R s m args c D E A nL own cc KC KS) {y : MethodName} {bytes : ByteArray} {maxL idx F Lc mc ms kc1 ks1 : Nat} {ret : Option FieldType} {As : List Value} {post : Int32 → Hp → Prop} {stk : List Value} (hM : XMet l y bytes maxL ret F Lc mc ms D E h As (fun A => va_Qi post (XPost D A) A)) {host : String} (h1 : Cond.methodLinkNest own idx y host ∈ xs_nw) (h2 : Cond.static y ∈ xw_tbl) (h4 : Cond.initialized y.cls ∈ xw_tbl) (h5 : Cond.code y bytes maxL ret ∈ xw_tbl) (hd : y.cls ≠ "java/lang/invoke/MethodHandle" ∧ y.cls ≠ "java/lang/invoke/VarHandle" ∧ (parseMethodDescriptor y.desc).map (fun d => d.parameters.length) = some As.length) (hR : F + 1 ≤ R.frames ∧ 8 + (maxL + 11) + Lc ≤ R.locals) (hkc : kc = mc + kc1) (hks : ks = ms + ks1) (hst : stk = As.reverse ++ st) (hroom : (st.map fun v => v.category).sum ≤ 8) (d : decode cc pc = .ok (.invokestatic idx, 3))
    (kk : ∀ (r : Int32) (h1 : Hp), post r h1 → XW p l e R s m args below meth c Q D A KC KS nL h1 kc1 ks1 lv (pc + 3) (.int r :: st)) : XW p l e R s m args below meth c Q D A KC KS nL h kc ks lv pc stk := by
  intro H locs cells slots ls hP hD hS hc1 hs1 hl
  subst hst
  have hFc := xa_free hD hS C.2.2.2.2.1.1
  have hRc := C.2.2.2.2.2
  refine va_calli (va_runSN (As := As) (rest := st) ⟨C.1.1, C.1.2, C.2.1.1, C.2.1.2, C.2.2.1⟩ (hM H.size) ⟨va_cnB As.length C.2.2.1 (xg_in (xg_code h5)) rfl rfl rfl (C.2.2.2.2.1.2.2.2.2.2 _ h1) (C.2.2.1 _ h4) hd hR, C.2.2.1 _ h2, trivial⟩ ⟨xp_blind, xp_pre C hP hD hS⟩ rfl rfl hl.1 rfl (lv_room hroom) d ⟨by omega, by omega⟩) hS (fun q _ z => hFc q z) hFc (fun r u t H1 locs1 ht hvm hw hB hz1 hk1 hS1 => ?_)
  obtain ⟨hP1, hD1⟩ := hB
  rw [ht] at hP1
  exact kk r u hw H1 locs1 _ _ ls hP1 (hD1.weaken (fun k q _ z => hFc q.1 z)) hS1 (by omega) (by omega) hl
theorem xr_cSNl (C : XC p R s m args c D E A nL own cc KC KS) {y : MethodName} {bytes : ByteArray} {maxL idx F Lc mc ms kc1 ks1 : Nat} {ret : Option FieldType} {As : List Value} {post : Int64 → Hp → Prop} {stk : List Value} (hM : XMet l y bytes maxL ret F Lc mc ms D E h As (fun A => va_Ql post (XPost D A) A)) {host : String} (h1 : Cond.methodLinkNest own idx y host ∈ xs_nw) (h2 : Cond.static y ∈ xw_tbl) (h4 : Cond.initialized y.cls ∈ xw_tbl) (h5 : Cond.code y bytes maxL ret ∈ xw_tbl) (hd : y.cls ≠ "java/lang/invoke/MethodHandle" ∧ y.cls ≠ "java/lang/invoke/VarHandle" ∧ (parseMethodDescriptor y.desc).map (fun d => d.parameters.length) = some As.length) (hR : F + 1 ≤ R.frames ∧ 8 + (maxL + 11) + Lc ≤ R.locals) (hkc : kc = mc + kc1) (hks : ks = ms + ks1) (hst : stk = As.reverse ++ st) (hroom : (st.map fun v => v.category).sum ≤ 8) (d : decode cc pc = .ok (.invokestatic idx, 3))
    (kk : ∀ (r : Int64) (h1 : Hp), post r h1 → XW p l e R s m args below meth c Q D A KC KS nL h1 kc1 ks1 lv (pc + 3) (.long r :: st)) : XW p l e R s m args below meth c Q D A KC KS nL h kc ks lv pc stk := by
  intro H locs cells slots ls hP hD hS hc1 hs1 hl
  subst hst
  have hFc := xa_free hD hS C.2.2.2.2.1.1
  have hRc := C.2.2.2.2.2
  refine va_calll (va_runSN (As := As) (rest := st) ⟨C.1.1, C.1.2, C.2.1.1, C.2.1.2, C.2.2.1⟩ (hM H.size) ⟨va_cnB As.length C.2.2.1 (xg_in (xg_code h5)) rfl rfl rfl (C.2.2.2.2.1.2.2.2.2.2 _ h1) (C.2.2.1 _ h4) hd hR, C.2.2.1 _ h2, trivial⟩ ⟨xp_blind, xp_pre C hP hD hS⟩ rfl rfl hl.1 rfl (lv_room hroom) d ⟨by omega, by omega⟩) hS (fun q _ z => hFc q z) hFc (fun r u t H1 locs1 ht hvm hw hB hz1 hk1 hS1 => ?_)
  obtain ⟨hP1, hD1⟩ := hB
  rw [ht] at hP1
  exact kk r u hw H1 locs1 _ _ ls hP1 (hD1.weaken (fun k q _ z => hFc q.1 z)) hS1 (by omega) (by omega) hl
theorem xr_cSNq (C : XC p R s m args c D E A nL own cc KC KS) {y : MethodName} {bytes : ByteArray} {maxL idx F Lc mc ms kc1 ks1 : Nat} {ret : Option FieldType} {As : List Value} {post : Option Nat → Hp → Prop} {stk : List Value} (hM : XMet l y bytes maxL ret F Lc mc ms D E h As (fun A => va_Qq post (XPost D A) A)) {host : String} (h1 : Cond.methodLinkNest own idx y host ∈ xs_nw) (h2 : Cond.static y ∈ xw_tbl) (h4 : Cond.initialized y.cls ∈ xw_tbl) (h5 : Cond.code y bytes maxL ret ∈ xw_tbl) (hd : y.cls ≠ "java/lang/invoke/MethodHandle" ∧ y.cls ≠ "java/lang/invoke/VarHandle" ∧ (parseMethodDescriptor y.desc).map (fun d => d.parameters.length) = some As.length) (hR : F + 1 ≤ R.frames ∧ 8 + (maxL + 11) + Lc ≤ R.locals) (hkc : kc = mc + kc1) (hks : ks = ms + ks1) (hst : stk = As.reverse ++ st) (hroom : (st.map fun v => v.category).sum ≤ 8) (d : decode cc pc = .ok (.invokestatic idx, 3))
    (kk : ∀ (r : Option Nat) (h1 : Hp), post r h1 → XW p l e R s m args below meth c Q D A KC KS nL h1 kc1 ks1 lv (pc + 3) (va_rf r :: st)) : XW p l e R s m args below meth c Q D A KC KS nL h kc ks lv pc stk := by
  intro H locs cells slots ls hP hD hS hc1 hs1 hl
  subst hst
  have hFc := xa_free hD hS C.2.2.2.2.1.1
  have hRc := C.2.2.2.2.2
  refine va_callq (va_runSN (As := As) (rest := st) ⟨C.1.1, C.1.2, C.2.1.1, C.2.1.2, C.2.2.1⟩ (hM H.size) ⟨va_cnB As.length C.2.2.1 (xg_in (xg_code h5)) rfl rfl rfl (C.2.2.2.2.1.2.2.2.2.2 _ h1) (C.2.2.1 _ h4) hd hR, C.2.2.1 _ h2, trivial⟩ ⟨xp_blind, xp_pre C hP hD hS⟩ rfl rfl hl.1 rfl (lv_room hroom) d ⟨by omega, by omega⟩) hS (fun q _ z => hFc q z) hFc (fun r u t H1 locs1 ht hvm hw hB hz1 hk1 hS1 => ?_)
  obtain ⟨hP1, hD1⟩ := hB
  rw [ht] at hP1
  exact kk r u hw H1 locs1 _ _ ls hP1 (hD1.weaken (fun k q _ z => hFc q.1 z)) hS1 (by omega) (by omega) hl
theorem xr_cSNv (C : XC p R s m args c D E A nL own cc KC KS) {y : MethodName} {bytes : ByteArray} {maxL idx F Lc mc ms kc1 ks1 : Nat} {ret : Option FieldType} {As : List Value} {post : Hp → Prop} {stk : List Value} (hM : XMet l y bytes maxL ret F Lc mc ms D E h As (fun A => va_Qv post (XPost D A) A)) {host : String} (h1 : Cond.methodLinkNest own idx y host ∈ xs_nw) (h2 : Cond.static y ∈ xw_tbl) (h4 : Cond.initialized y.cls ∈ xw_tbl) (h5 : Cond.code y bytes maxL ret ∈ xw_tbl) (hd : y.cls ≠ "java/lang/invoke/MethodHandle" ∧ y.cls ≠ "java/lang/invoke/VarHandle" ∧ (parseMethodDescriptor y.desc).map (fun d => d.parameters.length) = some As.length) (hR : F + 1 ≤ R.frames ∧ 8 + (maxL + 11) + Lc ≤ R.locals) (hkc : kc = mc + kc1) (hks : ks = ms + ks1) (hst : stk = As.reverse ++ st) (hroom : (st.map fun v => v.category).sum ≤ 8) (d : decode cc pc = .ok (.invokestatic idx, 3))
    (kk : ∀ (h1 : Hp), post h1 → XW p l e R s m args below meth c Q D A KC KS nL h1 kc1 ks1 lv (pc + 3) (st)) : XW p l e R s m args below meth c Q D A KC KS nL h kc ks lv pc stk := by
  intro H locs cells slots ls hP hD hS hc1 hs1 hl
  subst hst
  have hFc := xa_free hD hS C.2.2.2.2.1.1
  have hRc := C.2.2.2.2.2
  refine va_callv (va_runSN (As := As) (rest := st) ⟨C.1.1, C.1.2, C.2.1.1, C.2.1.2, C.2.2.1⟩ (hM H.size) ⟨va_cnB As.length C.2.2.1 (xg_in (xg_code h5)) rfl rfl rfl (C.2.2.2.2.1.2.2.2.2.2 _ h1) (C.2.2.1 _ h4) hd hR, C.2.2.1 _ h2, trivial⟩ ⟨xp_blind, xp_pre C hP hD hS⟩ rfl rfl hl.1 rfl (lv_room hroom) d ⟨by omega, by omega⟩) hS (fun q _ z => hFc q z) hFc (fun u t H1 locs1 ht hvm hw hB hz1 hk1 hS1 => ?_)
  obtain ⟨hP1, hD1⟩ := hB
  rw [ht] at hP1
  exact kk u hw H1 locs1 _ _ ls hP1 (hD1.weaken (fun k q _ z => hFc q.1 z)) hS1 (by omega) (by omega) hl
theorem xr_ireturn (C : XC p R s m args c D E A nL own cc KC KS) (hr : meth.sig.returnType = some .int) (hlk : meth.locks = false) {post : Int32 → Hp → Prop} {v : Int32} (hq : post v h) (d : decode cc pc = .ok (.ireturn, 1)) : XW p l e R s m args below meth c (MQ below (va_Qi post (XPost D A) A) args s KC KS A) D A KC KS nL h kc ks lv pc [.int v] := by
  intro H locs cells slots ls hP hD hS hc1 hs1 hl
  refine W.widen (k := KC) (n := KS) (by omega) (by omega) ?_
  exact W.iret C.1.1 C.1.2 hr (fun t ht hW => ⟨⟨v, h, rfl, hq, by rw [ht]; exact hP, hD⟩, hS.F ht⟩) hS.2.2 d hlk
theorem xr_zreturn (C : XC p R s m args c D E A nL own cc KC KS) (hr : meth.sig.returnType = some .boolean) (hlk : meth.locks = false) {post : Int32 → Hp → Prop} {v : Int32} (hz : v = 0 ∨ v = 1) (hq : post v h) (d : decode cc pc = .ok (.ireturn, 1)) : XW p l e R s m args below meth c (MQ below (va_Qi post (XPost D A) A) args s KC KS A) D A KC KS nL h kc ks lv pc [.int v] := by
  intro H locs cells slots ls hP hD hS hc1 hs1 hl
  refine W.widen (k := KC) (n := KS) (by omega) (by omega) ?_
  exact W.zret C.1.1 C.1.2 hr (by rcases hz with rfl | rfl <;> rfl) (fun t ht hW => ⟨⟨v, h, rfl, hq, by rw [ht]; exact hP, hD⟩, hS.F ht⟩) hS.2.2 d hlk
theorem xr_lreturn (C : XC p R s m args c D E A nL own cc KC KS) (hr : meth.sig.returnType = some .long) (hlk : meth.locks = false) {post : Int64 → Hp → Prop} {v : Int64} (hq : post v h) (d : decode cc pc = .ok (.lreturn, 1)) : XW p l e R s m args below meth c (MQ below (va_Ql post (XPost D A) A) args s KC KS A) D A KC KS nL h kc ks lv pc [.long v] := by
  intro H locs cells slots ls hP hD hS hc1 hs1 hl
  refine W.widen (k := KC) (n := KS) (by omega) (by omega) ?_
  exact W.lret C.1.1 C.1.2 hr (fun t ht hW => ⟨⟨v, h, rfl, hq, by rw [ht]; exact hP, hD⟩, hS.F ht⟩) hS.2.2 d hlk
theorem xr_vreturn (C : XC p R s m args c D E A nL own cc KC KS) (hr : meth.sig.returnType = none) (hlk : meth.locks = false) {post : Hp → Prop} (hq : post h) (d : decode cc pc = .ok (.return_, 1)) : XW p l e R s m args below meth c (MQ below (va_Qv post (XPost D A) A) args s KC KS A) D A KC KS nL h kc ks lv pc [] := by
  intro H locs cells slots ls hP hD hS hc1 hs1 hl
  refine W.widen (k := KC) (n := KS) (by omega) (by omega) ?_
  exact W.vret C.1.1 C.1.2 hr (fun t ht hW => ⟨⟨h, rfl, hq, by rw [ht]; exact hP, hD⟩, hS.F ht⟩) hS.2.2 d hlk
theorem xr_areturn (C : XC p R s m args c D E A nL own cc KC KS) {rt : FieldType} (hr : meth.sig.returnType = some rt) (hrt : (∃ n, rt = .object n) ∨ ∃ t, rt = .array t) (hlk : meth.locks = false) {post : Option Nat → Hp → Prop} {r : Option Nat} (hq : post r h) (d : decode cc pc = .ok (.areturn, 1)) : XW p l e R s m args below meth c (MQ below (va_Qq post (XPost D A) A) args s KC KS A) D A KC KS nL h kc ks lv pc [va_rf r] := by
  intro H locs cells slots ls hP hD hS hc1 hs1 hl
  refine W.widen (k := KC) (n := KS) (by omega) (by omega) ?_
  exact W.aret C.1.1 C.1.2 hr hrt (by cases r with | none => exact Or.inl rfl | some a => exact Or.inr ⟨a, rfl⟩) (fun t ht hW => ⟨⟨r, h, rfl, hq, by rw [ht]; exact hP, hD⟩, hS.F ht⟩) hS.2.2 d hlk
/-- a method's contract out of the walk of its body -/
theorem xm_of {y : MethodName} {bytes : ByteArray} {maxL F Lc mc ms : Nat} {ret : Option FieldType} {As : List Value} {Qf : (Nat → Prop) → Array Value → State → Outcome → State → Prop} (hy : plainName y.cls = true) (hlen : (lg_sl As).length ≤ maxL) (own : String) (hown : y.cls = own)
    (body : ∀ (p : Program) (e : Env) (s : State) (m : MethodId) (args : Array Value) (below : List Frame) (meth : Method) (c : Code) (A : Nat → Prop) (R : Room), R = { frames := F, cells := mc, slots := ms, locals := Lc } → XC p R s m args c D E A maxL own bytes mc ms → meth.sig.returnType = ret → meth.locks = false → meth.name = y.name →
      XW p l e R s m args below meth c (MQ below (Qf A) args s mc ms A) D A mc ms maxL h mc ms (lv_args 0 As) 0 []) : XMet l y bytes maxL ret F Lc mc ms D E h As Qf := by
  intro sz
  refine Met.ofW (cc := bytes) (maxL := maxL) (ret := ret) hy rfl ?_
  intro p e s m args below meth c s₁ B hml hv
  obtain ⟨rfl, hsz, hP, hK, hD0, hS0⟩ := hv
  have hts := atoms_spec (ws := Cond.code y bytes maxL ret :: xw_tbl) B.pre
  have hown' : s.vm.findClass own = some m.cls := by rw [← hown]; exact findClass_of_methodNamed B.named
  subst hsz
  have hD := hD0.self (sz := s.heap.size)
  have hA : ∀ q : Nat, s.heap.size ≤ q → XA h s.heap.size q := fun q z => Or.inr z
  have hl := lv_entry As (n := maxL) hlen
  rw [lg_entry_eq]
  generalize (lg_sl As ++ List.replicate (maxL - (lg_sl As).length) Slot.unset).toArray = ls at hl ⊢
  exact body p e s m As.toArray below meth c (XA h s.heap.size) _ rfl ⟨⟨B.exec, B.bytes⟩, ⟨hml, hown'⟩, fun w hw => hts w (List.mem_cons_of_mem _ hw), hK, ⟨hA, hS0⟩, rfl, rfl⟩ B.returns B.notSynchronized (name_of_methodNamed B.named B.method).1 s.heap [] 0 0 ls hP hD va_S.rf (Nat.zero_add _) (Nat.zero_add _) hl
end XM
section XN
variable {p : Program} {l : Launch} {e : Env} {R : Room} {s : State} {m : MethodId} {args : Array Value} {below : List Frame} {meth : Method} {c : Code} {Q : State → Prop} {D : va_G} {E : Ev} {A : Nat → Prop} {KC KS nL : Nat} {own : String} {cc : ByteArray} {h : Hp} {kc ks : Nat} {lv : List (Nat × Value)} {pc : Nat} {st : List Value}
theorem xr_uniq {U : State} {cA cB : ClassId} {ty : FieldType} (h1 : va_RA U cA ty) (h2 : va_RA U cB ty) : cA = cB := by
  cases ty with
  | object Cn =>
    obtain ⟨_, _, _, _, _, a4⟩ := h1
    obtain ⟨_, _, _, _, _, b4⟩ := h2
    exact Option.some.inj (a4.symm.trans b4)
  | _ => exact Option.some.inj (Eq.trans (Eq.symm h1) h2)
theorem xr_uniqK {cA : ClassId} {ty : FieldType} (hK : va_K D vwCl (xe_tyl E) s) (t : Nat) (ht : xs_ty[t]? = some ty) (hK2 : va_K D vwCl (xe_tyl E ++ [(cA, ty)]) s) : cA = E.1 t := by
  have a := (hK.2 t _ (xe_ty_at t ht)).2
  have b := (hK2.2 (xe_tyl E).length (cA, ty) (by rw [List.getElem?_append_right (Nat.le_refl _), Nat.sub_self]; rfl)).2
  exact xr_uniq b a
/-- a new object -/
theorem xr_new (C : XC p R s m args c D E A nL own cc KC KS) {Cn : String} {T : u_T} {N ci idx kc1 ks1 : Nat} {fs : List Value} (ty0 : Nat → FieldType) (hty : ∀ k, k < N → parseFieldDescriptor (T k).2.2.1 = some (ty0 k)) (hc : vwCl[ci]? = some (Cn, T, N)) (hin : ∀ w ∈ u_ws Cn T N, w ∈ xw_tbl) (h1 : Cond.classLink own idx Cn ∈ xw_tbl) (h2 : Cond.instantiable Cn N ∈ xw_tbl) (h3 : Cond.initialized Cn ∈ xw_tbl) (hfs : ∀ j, j < N → defaultValue (ty0 j) = vp_V fs j) (hkc : kc = 1 + kc1) (hks : ks = N + ks1) (d : decode cc pc = .ok (.new idx, 3))
    (kk : ∀ (q : Nat) (h1 : Hp), q ∉ h.1 → h1 = xh_new h q (.inr (ci, fs)) → XW p l e R s m args below meth c Q D A KC KS nL h1 kc1 ks1 lv (pc + 3) (.ref q :: st)) : XW p l e R s m args below meth c Q D A KC KS nL h kc ks lv pc st := by
  intro H locs cells slots ls hP hD hS hc1 hs1 hl
  have hRc := C.2.2.2.2.2
  refine va_new C.1.1 C.1.2 C.2.2.1 hin ty0 hty C.2.1.2 (C.2.2.1 _ h1) (C.2.2.1 _ h2) (C.2.2.1 _ h3) C.2.2.2.1 hP hD hS C.2.2.2.2.1.1 hc hfs (by omega) (by omega) d (fun q H1 hP1 hD1 hS1 => ?_)
  obtain ⟨hn, he⟩ := xh_push (D := D) (H1 := H1) hD1
  rw [he] at hP1 hD1
  exact kk q _ hn rfl H1 locs _ _ ls hP1 hD1 hS1 (by omega) (by omega) hl
/-- new int[n], new long[n] -/
theorem xr_newa (C : XC p R s m args c D E A nL own cc KC KS) {aty : ArrayType} {ty : FieldType} (t : Nat) (ht : xs_ty[t]? = some ty) (hw : Cond.arrayClass (newarray.typeOf aty) ∈ xw_tbl) (hty : newarray.typeOf aty = ty) {n : Int32} {N kc1 ks1 : Nat} {a0 : vp_A} (ha : ∀ cA : ClassId, vp_cell cA a0 = arrV cA N (fun _ => defaultValue ty)) (hn : ¬ n < 0) (hN : n.toNatClampNeg = N) (hbytes : N * componentBytes ty ≤ 536870912) (hkc : kc = 1 + kc1) (hks : ks = N + ks1) (d : decode cc pc = .ok (.newarray aty, 2))
    (kk : ∀ (q : Nat) (h1 : Hp), q ∉ h.1 → h1 = xh_new h q (.inl (E.1 t, a0)) → XW p l e R s m args below meth c Q D A KC KS nL h1 kc1 ks1 lv (pc + 2) (.ref q :: st)) : XW p l e R s m args below meth c Q D A KC KS nL h kc ks lv pc (.int n :: st) := by
  intro H locs cells slots ls hP hD hS hc1 hs1 hl
  have hRc := C.2.2.2.2.2
  refine va_newa C.1.1 C.1.2 (C.2.2.1 _ hw) hty C.2.2.2.1 hP hD hS C.2.2.2.2.1.1 ha hn hN hbytes (by omega) (by omega) d (fun q cA H1 hK1 hP1 hD1 hS1 => ?_)
  have hcA := xr_uniqK C.2.2.2.1 t ht hK1
  subst hcA
  obtain ⟨hn, he⟩ := xh_push (D := D) (H1 := H1) hD1
  rw [he] at hP1 hD1
  exact kk q _ hn rfl H1 locs _ _ ls hP1 hD1 hS1 (by omega) (by omega) hl
/-- new C[n] -/
theorem xr_newq (C : XC p R s m args c D E A nL own cc KC KS) {Cn : String} {idx : Nat} (t : Nat) (ht : xs_ty[t]? = some (.object Cn)) (h1 : Cond.classLink own idx Cn ∈ xw_tbl) (h2 : Cn ∈ xs_ao) {n : Int32} {N kc1 ks1 : Nat} (hn : ¬ n < 0) (hN : n.toNatClampNeg = N) (hbytes : N * 4 ≤ 536870912) (hkc : kc = 1 + kc1) (hks : ks = N + ks1) (d : decode cc pc = .ok (.anewarray idx, 3))
    (kk : ∀ (q : Nat) (h1 : Hp), q ∉ h.1 → h1 = xh_new h q (.inl (E.1 t, N, .inr (.inr (.inr (.inr (fun _ => none)))))) → XW p l e R s m args below meth c Q D A KC KS nL h1 kc1 ks1 lv (pc + 3) (.ref q :: st)) : XW p l e R s m args below meth c Q D A KC KS nL h kc ks lv pc (.int n :: st) := by
  intro H locs cells slots ls hP hD hS hc1 hs1 hl
  have hRc := C.2.2.2.2.2
  refine va_newq C.1.1 C.1.2 C.2.1.2 (C.2.2.1 _ h1) (C.2.2.2.2.1.2.2.2.2.1 _ h2) C.2.2.2.1 hP hD hS C.2.2.2.2.1.1 hn hN hbytes (by omega) (by omega) d (fun q cA H1 hK1 hP1 hD1 hS1 => ?_)
  have hcA := xr_uniqK C.2.2.2.1 t ht hK1
  subst hcA
  obtain ⟨hn, he⟩ := xh_push (D := D) (H1 := H1) hD1
  rw [he] at hP1 hD1
  exact kk q _ hn rfl H1 locs _ _ ls hP1 hD1 hS1 (by omega) (by omega) hl
/-- a reference into a row of its own class -/
theorem xr_aast (C : XC p R s m args c D E A nL own cc KC KS) {Cn : String} {T : u_T} {N ci : Nat} (t : Nat) (ht : xs_ty[t]? = some (.object Cn)) {a n v : Nat} {fs : List Value} {f : Nat → Option Nat} (ha : xh_at h a (.inl (E.1 t, n, .inr (.inr (.inr (.inr f)))))) (hv : xh_at h v (.inr (ci, fs))) (hc : vwCl[ci]? = some (Cn, T, N)) {i : Int32} (hin : vp_in i n) {h1 : Hp} (hh : h1 = xh_set h a (.inl (E.1 t, n, .inr (.inr (.inr (.inr (va_up f i.toNatClampNeg (some v)))))))) (d : decode cc pc = .ok (.aastore, 1))
    (kk : XW p l e R s m args below meth c Q D A KC KS nL h1 kc ks lv (pc + 1) st) : XW p l e R s m args below meth c Q D A KC KS nL h kc ks lv pc (.ref v :: .int i :: .ref a :: st) := by
  subst hh
  intro H locs cells slots ls hP hD hS hc1 hs hl
  obtain ⟨q, hq⟩ := xh_get ha
  obtain ⟨q2, hq2⟩ := xh_get hv
  refine va_astq (r := (Cn, T, N)) C.1.1 C.1.2 C.2.2.2.1 hP hD hS q t q2 ci hq (xe_ty_at t ht) hq2 hc hin d (fun H1 locs1 hP1 hD1 hS1 => ?_)
  rw [xh_put hD ha hq] at hP1 hD1
  exact kk H1 locs1 cells slots ls hP1 hD1 hS1 hc1 hs hl
theorem xr_aastN (C : XC p R s m args c D E A nL own cc KC KS) {Cn : String} (t : Nat) (ht : xs_ty[t]? = some (.object Cn)) {a n : Nat} {f : Nat → Option Nat} (ha : xh_at h a (.inl (E.1 t, n, .inr (.inr (.inr (.inr f)))))) {i : Int32} (hin : vp_in i n) {h1 : Hp} (hh : h1 = xh_set h a (.inl (E.1 t, n, .inr (.inr (.inr (.inr (va_up f i.toNatClampNeg none))))))) (d : decode cc pc = .ok (.aastore, 1))
    (kk : XW p l e R s m args below meth c Q D A KC KS nL h1 kc ks lv (pc + 1) st) : XW p l e R s m args below meth c Q D A KC KS nL h kc ks lv pc (.null :: .int i :: .ref a :: st) := by
  subst hh
  intro H locs cells slots ls hP hD hS hc1 hs hl
  obtain ⟨q, hq⟩ := xh_get ha
  refine va_astqN C.1.1 C.1.2 C.2.2.2.1 hP hD hS q t hq (xe_ty_at t ht) hin d (fun H1 locs1 hP1 hD1 hS1 => ?_)
  rw [xh_put hD ha hq] at hP1 hD1
  exact kk H1 locs1 cells slots ls hP1 hD1 hS1 hc1 hs hl
/-- a cast to the object's own class -/
theorem xr_cast (C : XC p R s m args c D E A nL own cc KC KS) {Cn : String} {T : u_T} {N ci idx a : Nat} {fs : List Value} (ha : xh_at h a (.inr (ci, fs))) (hc : vwCl[ci]? = some (Cn, T, N)) (h1 : Cond.classLink own idx Cn ∈ xw_tbl) (d : decode cc pc = .ok (.checkcast idx, 3))
    (kk : XW p l e R s m args below meth c Q D A KC KS nL h kc ks lv (pc + 3) (.ref a :: st)) : XW p l e R s m args below meth c Q D A KC KS nL h kc ks lv pc (.ref a :: st) := by
  intro H locs cells slots ls hP hD hS hc1 hs hl
  exact va_castS C.1.1 C.1.2 C.2.1.2 (C.2.2.1 _ h1) (C.2.2.2.1.1 ci _ hc).2 (xp_recv C hP ha hc) d (kk H locs cells slots ls hP hD hS hc1 hs hl)
theorem xr_castN (C : XC p R s m args c D E A nL own cc KC KS) {idx : Nat} (d : decode cc pc = .ok (.checkcast idx, 3)) (kk : XW p l e R s m args below meth c Q D A KC KS nL h kc ks lv (pc + 3) (.null :: st)) : XW p l e R s m args below meth c Q D A KC KS nL h kc ks lv pc (.null :: st) :=
  fun H locs cells slots ls hP hD hS hc1 hs hl => lv_castN C.1.1 C.1.2 d (kk H locs cells slots ls hP hD hS hc1 hs hl)
/-- Object() -/
theorem xr_obj (C : XC p R s m args c D E A nL own cc KC KS) {idx a : Nat} (h1 : Cond.methodLink own idx Lib.objectInit ∈ xw_tbl) (h2 : Cond.instanceMethod Lib.objectInit ∈ xw_tbl) (h3 : Cond.code Lib.objectInit ⟨#[0xb1]⟩ 1 none ∈ xw_tbl) (hR : 1 ≤ R.frames) (hL : 2 * 0 + (st.map fun v => v.category).sum + 12 ≤ R.locals) (d : decode cc pc = .ok (.invokespecial idx, 3))
    (kk : XW p l e R s m args below meth c Q D A KC KS nL h kc ks lv (pc + 3) st) : XW p l e R s m args below meth c Q D A KC KS nL h kc ks lv pc (.ref a :: st) := by
  intro H locs cells slots ls hP hD hS hc1 hs hl
  refine W.objInit C.1.1 C.1.2 C.2.1.2 (C.2.2.1 _ h1) (C.2.2.1 _ h2) (C.2.2.1 _ h3) rfl (by rw [C.2.1.1]; exact hl.1) rfl d hR hL ?_
  exact kk H locs cells slots ls hP hD hS hc1 hs hl
end XN
theorem xv_narO (n : String) (r : Option Nat) : narrow (.object n) (va_rf r) = va_rf r := by cases r <;> rfl
theorem xv_narA (t : FieldType) (r : Option Nat) : narrow (.array t) (va_rf r) = va_rf r := by cases r <;> rfl
theorem xv_fitO (n : String) (r : Option Nat) : fits (.object n) (va_rf r) = true := by cases r <;> rfl
theorem xv_fitA (t : FieldType) (r : Option Nat) : fits (.array t) (va_rf r) = true := by cases r <;> rfl
/-- the length of an array of the picture, or of a constant one -/
def xa_len (E : Ev) (h : Hp) (a : Nat) (x : Int32) : Prop := (∃ t ty y, xs_ty[t]? = some ty ∧ xh_at h a (.inl (E.1 t, y)) ∧ Int32.ofNat y.1 = x) ∨ (∃ i ty N f, xs_ro[i]? = some (i, ty, N, f) ∧ a = E.2.1 i ∧ Int32.ofNat N = x)
def xo_at (h : Hp) (a : Nat) : Prop := ∃ ci fs, 1 ≤ ci ∧ xh_at h a (.inr (ci, fs))

section XO
variable {p : Program} {l : Launch} {e : Env} {R : Room} {s : State} {m : MethodId} {args : Array Value} {below : List Frame} {meth : Method} {c : Code} {Q : State → Prop} {D : va_G} {E : Ev} {A : Nat → Prop} {KC KS nL : Nat} {own : String} {cc : ByteArray} {h : Hp} {kc ks : Nat} {lv : List (Nat × Value)} {pc : Nat} {st : List Value}
theorem xr_topi {x : Int32} (k : ∀ y : Int32, y = x → XW p l e R s m args below meth c Q D A KC KS nL h kc ks lv pc (.int y :: st)) : XW p l e R s m args below meth c Q D A KC KS nL h kc ks lv pc (.int x :: st) := k x rfl
theorem xr_topl {x : Int64} (k : ∀ y : Int64, y = x → XW p l e R s m args below meth c Q D A KC KS nL h kc ks lv pc (.long y :: st)) : XW p l e R s m args below meth c Q D A KC KS nL h kc ks lv pc (.long x :: st) := k x rfl
theorem xr_getS (C : XC p R s m args c D E A nL own cc KC KS) {Cn ref : String} {T : u_T} {N ci idx a : Nat} {fs : List Value} {v : Value} (k : Nat) (ha : xh_at h a (.inr (ci, fs))) (hv : fs[k]? = some v) (hc : vwCl[ci]? = some (Cn, T, N)) (hin : ∀ w ∈ u_ws Cn T N, w ∈ xw_tbl) (hk : k < N) (hw : Cond.fieldLink own idx ref (T k).2.1 (T k).2.2.1 ∈ xw_tbl) (hsm : Cond.sameField ref (T k).1 (T k).2.1 (T k).2.2.1 ∈ xw_tbl) (d : decode cc pc = .ok (.getfield idx, 3))
    (kk : XW p l e R s m args below meth c Q D A KC KS nL h kc ks lv (pc + 3) (v :: st)) : XW p l e R s m args below meth c Q D A KC KS nL h kc ks lv pc (.ref a :: st) := by
  intro H locs cells slots ls hP hD hS hc1 hs1 hl
  obtain ⟨q, hq⟩ := xh_get ha
  exact va_get C.1.1 C.1.2 C.2.2.1 hin C.2.1.2 C.2.2.2.1 hP q hq hc k hk (C.2.2.1 _ hw) (fun x h9 => u_same (C.2.2.1 _ hsm) x h9) hv d (kk H locs cells slots ls hP hD hS hc1 hs1 hl)
theorem xr_putS (C : XC p R s m args c D E A nL own cc KC KS) {Cn ref : String} {T : u_T} {N ci idx a : Nat} {fs : List Value} {v : Value} (k : Nat) (ty : FieldType) (ty0 : Nat → FieldType) (hty : ∀ k, k < N → parseFieldDescriptor (T k).2.2.1 = some (ty0 k)) (hnm : ∀ a, a < N → ∀ b, b < N → a ≠ b → (T a).2.1 ≠ (T b).2.1) (ha : xh_at h a (.inr (ci, fs))) (hlen : k < fs.length) (hc : vwCl[ci]? = some (Cn, T, N)) (hin : ∀ w ∈ u_ws Cn T N, w ∈ xw_tbl) (hk : k < N) (hw : Cond.fieldLink own idx ref (T k).2.1 (T k).2.2.1 ∈ xw_tbl) (hsm : Cond.sameField ref (T k).1 (T k).2.1 (T k).2.2.1 ∈ xw_tbl) (hfin : (T k).2.2.2 = false) (hd : parseFieldDescriptor (T k).2.2.1 = some ty) (hn : narrow ty v = v) (hfit : fits ty v = true) {h1 : Hp} (hh : h1 = xh_set h a (.inr (ci, fs.set k v))) (d : decode cc pc = .ok (.putfield idx, 3))
    (kk : XW p l e R s m args below meth c Q D A KC KS nL h1 kc ks lv (pc + 3) st) : XW p l e R s m args below meth c Q D A KC KS nL h kc ks lv pc (v :: .ref a :: st) := by
  subst hh
  intro H locs cells slots ls hP hD hS hc1 hs1 hl
  obtain ⟨q, hq⟩ := xh_get ha
  refine va_put C.1.1 C.1.2 C.2.2.1 hin ty0 hty hnm C.2.1.2 C.2.2.2.1 hP hD hS q hq hc k hk (C.2.2.1 _ hw) (fun x h9 => u_same (C.2.2.1 _ hsm) x h9) hfin hd hn hfit hlen d (fun H1 locs1 hP1 hD1 hS1 => ?_)
  rw [xh_put hD ha hq] at hP1 hD1
  exact kk H1 locs1 cells slots ls hP1 hD1 hS1 hc1 hs1 hl
theorem xr_getsN (C : XC p R s m args c D E A nL own cc KC KS) {idx : Nat} {host : String} (i : Nat) {q : String × String × String} (hq : xs_st[i]? = some q) (hw : Cond.fieldLinkNest own idx q.1 q.2.1 q.2.2 host ∈ xs_nw) (d : decode cc pc = .ok (.getstatic idx, 3))
    (kk : XW p l e R s m args below meth c Q D A KC KS nL h kc ks lv (pc + 3) (.ref (E.2.1 i) :: st)) : XW p l e R s m args below meth c Q D A KC KS nL h kc ks lv pc st := by
  intro H locs cells slots ls hP hD hS hc1 hs1 hl
  exact va_getsN C.1.1 C.1.2 (C.2.2.2.2.1.2.1 i q hq) hS C.2.1.2 (va_Nw.use rfl (C.2.2.2.2.1.2.2.2.2.2 _ hw)) (fun _ h9 => h9) d (kk H locs cells slots ls hP hD hS hc1 hs1 hl)
theorem xr_ldcM (i : Nat) {Cn : String} (hq : xs_mi[i]? = some Cn) (C : XC p R s m args c D E A nL own cc KC KS) {idx : Nat} (hw : Cond.classLink own idx Cn ∈ xw_tbl) (d : decode cc pc = .ok (.ldc idx, 2))
    (kk : XW p l e R s m args below meth c Q D A KC KS nL h kc ks lv (pc + 2) (.ref (E.2.2 i) :: st)) : XW p l e R s m args below meth c Q D A KC KS nL h kc ks lv pc st := by
  intro H locs cells slots ls hP hD hS hc1 hs1 hl
  exact va_ldcM C.1.1 C.1.2 C.2.1.2 (C.2.2.1 _ hw) (C.2.2.2.2.1.2.2.2.1 i _ hq) d (kk H locs cells slots ls hP hD hS hc1 hs1 hl)
theorem xr_alenX (C : XC p R s m args c D E A nL own cc KC KS) {a : Nat} {x : Int32} (hx : xa_len E h a x) (d : decode cc pc = .ok (.arraylength, 1))
    (kk : XW p l e R s m args below meth c Q D A KC KS nL h kc ks lv (pc + 1) (.int x :: st)) : XW p l e R s m args below meth c Q D A KC KS nL h kc ks lv pc (.ref a :: st) := by
  rcases hx with ⟨t, ty, y, ht, ha, hv⟩ | ⟨i, ty, N, f, hq, rfl, hv⟩
  · exact xr_alen C t ht ha hv d kk
  · exact xr_rolen C i hq hv d kk
theorem xr_castA (C : XC p R s m args c D E A nL own cc KC KS) (t : Nat) {ty : FieldType} (ht : xs_ty[t]? = some ty) {nm : String} {idx a : Nat} {x : vp_A} (ha : xh_at h a (.inl (E.1 t, x))) (hnm : ∀ cA : ClassId, va_RA s cA ty → s.vm.findClass nm = some cA) (hw : Cond.classLink own idx nm ∈ xw_tbl) (d : decode cc pc = .ok (.checkcast idx, 3))
    (kk : XW p l e R s m args below meth c Q D A KC KS nL h kc ks lv (pc + 3) (.ref a :: st)) : XW p l e R s m args below meth c Q D A KC KS nL h kc ks lv pc (.ref a :: st) := by
  intro H locs cells slots ls hP hD hS hc1 hs1 hl
  obtain ⟨q, hq⟩ := xh_get ha
  exact va_castA C.1.1 C.1.2 C.2.1.2 (C.2.2.1 _ hw) hP q hq (hnm _ (C.2.2.2.1.2 t _ (xe_ty_at t ht)).2) d (kk H locs cells slots ls hP hD hS hc1 hs1 hl)
theorem xr_any (C : XC p R s m args c D E A nL own cc KC KS) {H : Heap} (hP : va_P D vwCl (va_pl h.1 h.2) H) {a : Nat} (ha : xo_at h a) : va_Any "java/lang/Object" s H a := by
  obtain ⟨ci, fs, h1, ha⟩ := ha
  obtain ⟨q, hq⟩ := xh_get ha
  obtain ⟨r, hr, -⟩ := hP q _ hq
  have hm : Cond.castable r.1 "java/lang/Object" ∈ xs_nw := by
    match ci, h1, hr with
    | 1, _, hr => cases hr; decide +kernel
    | 2, _, hr => cases hr; decide +kernel
    | 3, _, hr => cases hr; decide +kernel
    | 4, _, hr => cases hr; decide +kernel
    | 5, _, hr => cases hr; decide +kernel
    | 6, _, hr => cases hr; decide +kernel
    | 7, _, hr => cases hr; decide +kernel
    | 8, _, hr => cases hr; decide +kernel
    | 9, _, hr => cases hr; decide +kernel
    | 10, _, hr => cases hr; decide +kernel
    | 11, _, hr => cases hr; decide +kernel
    | 12, _, hr => cases hr; decide +kernel
    | 13, _, hr => cases hr; decide +kernel
    | k + 14, _, hr => simp [vwCl] at hr
  exact va_rAny C.2.2.2.1 hP hq hr (vb_asgC (C.2.2.2.2.1.2.2.2.2.2 _ hm))
theorem xr_aastO (C : XC p R s m args c D E A nL own cc KC KS) (t : Nat) (ht : xs_ty[t]? = some (.object "java/lang/Object")) {a n v : Nat} {f : Nat → Option Nat} (ha : xh_at h a (.inl (E.1 t, n, .inr (.inr (.inr (.inr f)))))) (hv : xo_at h v) {i : Int32} (hin : vp_in i n) {h1 : Hp} (hh : h1 = xh_set h a (.inl (E.1 t, n, .inr (.inr (.inr (.inr (va_up f i.toNatClampNeg (some v)))))))) (d : decode cc pc = .ok (.aastore, 1))
    (kk : XW p l e R s m args below meth c Q D A KC KS nL h1 kc ks lv (pc + 1) st) : XW p l e R s m args below meth c Q D A KC KS nL h kc ks lv pc (.ref v :: .int i :: .ref a :: st) := by
  subst hh
  intro H locs cells slots ls hP hD hS hc1 hs1 hl
  obtain ⟨q, hq⟩ := xh_get ha
  refine va_astqM C.1.1 C.1.2 C.2.2.2.1 hP hD hS q t hq (xe_ty_at t ht) (xr_any C hP hv) hin d (fun H1 locs1 hP1 hD1 hS1 => ?_)
  rw [xh_put hD ha hq] at hP1 hD1
  exact kk H1 locs1 cells slots ls hP1 hD1 hS1 hc1 hs1 hl
theorem xr_getC (C : XC p R s m args c D E A nL own cc KC KS) {a idx : Nat} {x : vp_A} (ha : xh_at h a (.inl (E.1 4, x))) (hw : Cond.methodLink own idx ⟨"java/lang/Object", "getClass", "()Ljava/lang/Class;"⟩ ∈ xw_tbl) (w1 : Cond.declares ⟨"java/lang/Object", "getClass", "()Ljava/lang/Class;"⟩ ∈ xs_nw) (w2 : Cond.selects "[Ljava/lang/Object;" ⟨"java/lang/Object", "getClass", "()Ljava/lang/Class;"⟩ ⟨"java/lang/Object", "getClass", "()Ljava/lang/Class;"⟩ ∈ xw_tbl) (w3 : Cond.instanceMethod ⟨"java/lang/Object", "getClass", "()Ljava/lang/Class;"⟩ ∈ xw_tbl) (w4 : Cond.native ⟨"java/lang/Object", "getClass", "()Ljava/lang/Class;"⟩ ∈ xw_tbl) (hF : 1 ≤ R.frames) (hL : (st.map fun v => v.category).sum + 14 ≤ R.locals) (d : decode cc pc = .ok (.invokevirtual idx, 3))
    (kk : XW p l e R s m args below meth c Q D A KC KS nL h kc ks lv (pc + 3) (.ref (E.2.2 0) :: st)) : XW p l e R s m args below meth c Q D A KC KS nL h kc ks lv pc (.ref a :: st) := by
  intro H locs cells slots ls hP hD hS hc1 hs1 hl
  obtain ⟨q, hq⟩ := xh_get ha
  have hcA : s.vm.findClass "[Ljava/lang/Object;" = some (E.1 4) := va_nmO (C.2.2.2.1.2 4 _ (xe_ty_at 4 rfl)).2 (by decide +kernel)
  have hcell : H[a]? = some (vp_cell (E.1 4) x) := hP q _ hq
  exact va_getC C.1.1 C.1.2 (by rw [C.2.1.1]; exact hl.1.symm) C.2.1.2 (C.2.2.1 _ hw) (va_Nw.use rfl (C.2.2.2.2.1.2.2.2.2.2 _ w1)) (C.2.2.1 _ w2) (C.2.2.1 _ w3) (C.2.2.1 _ w4) (C.2.2.2.2.1.2.2.2.1 0 _ rfl) ⟨_, hcell, by obtain ⟨n, f | f | f | f | f⟩ := x <;> rfl, by rw [hcA]; obtain ⟨n, f | f | f | f | f⟩ := x <;> rfl⟩ hF hL d (kk H locs cells slots ls hP hD hS hc1 hs1 hl)
theorem xr_clL (C : XC p R s m args c D E A nL own cc KC KS) {a idx n kc1 ks1 : Nat} {f : Nat → Int64} (ha : xh_at h a (.inl (E.1 1, n, .inr (.inl f)))) (hw : Cond.methodLink own idx ⟨"[J", "clone", "()Ljava/lang/Object;"⟩ ∈ xw_tbl) (w1 : Cond.sameMethod "[J" "java/lang/Object" "clone" "()Ljava/lang/Object;" ∈ xw_tbl) (w2 : Cond.native ⟨"java/lang/Object", "clone", "()Ljava/lang/Object;"⟩ ∈ xw_tbl) (w3 : Cond.instanceMethod ⟨"java/lang/Object", "clone", "()Ljava/lang/Object;"⟩ ∈ xw_tbl) (w4 : Cond.selects "[J" ⟨"[J", "clone", "()Ljava/lang/Object;"⟩ ⟨"java/lang/Object", "clone", "()Ljava/lang/Object;"⟩ ∈ xw_tbl) (w5 : Cond.castable "[J" "java/lang/Cloneable" ∈ xs_nw) (hkc : kc = 1 + kc1) (hks : ks = n + ks1) (hF : 1 ≤ R.frames) (hL : (st.map fun v => v.category).sum + 14 ≤ R.locals) (d : decode cc pc = .ok (.invokevirtual idx, 3))
    (kk : ∀ (q : Nat) (h1 : Hp), q ∉ h.1 → h1 = xh_new h q (.inl (E.1 1, n, .inr (.inl f))) → XW p l e R s m args below meth c Q D A KC KS nL h1 kc1 ks1 lv (pc + 3) (.ref q :: st)) : XW p l e R s m args below meth c Q D A KC KS nL h kc ks lv pc (.ref a :: st) := by
  intro H locs cells slots ls hP hD hS hc1 hs1 hl
  obtain ⟨q, hq⟩ := xh_get ha
  have hRc := C.2.2.2.2.2
  refine va_clone (ty := .long) C.1.1 C.1.2 (by rw [C.2.1.1]; exact hl.1.symm) C.2.1.2 (C.2.2.1 _ hw) (C.2.2.1 _ w1) (C.2.2.1 _ w2) (C.2.2.1 _ w3) (C.2.2.1 _ w4) (C.2.2.2.2.1.2.2.2.2.2 _ w5) C.2.2.2.1 hP hD hS C.2.2.2.2.1.1 q 1 hq (xe_ty_at 1 rfl) (va_nm_long (C.2.2.2.1.2 1 _ (xe_ty_at 1 rfl)).2) (va_fit (fun _ _ => rfl)) hF hL (by omega) (by show slots + n ≤ _; omega) d (fun q H1 hK1 hP1 hD1 hS1 => ?_)
  obtain ⟨hn, he⟩ := xh_push (D := D) (H1 := H1) hD1
  rw [he] at hP1 hD1
  exact kk q _ hn rfl H1 locs _ _ ls hP1 hD1 hS1 (by omega) (by show slots + n + ks1 = KS; omega) hl
theorem xr_newa_int (C : XC p R s m args c D E A nL own cc KC KS) (t : Nat) (ht : xs_ty[t]? = some .int) (hw : Cond.arrayClass .int ∈ xw_tbl) {n : Int32} {N kc1 ks1 : Nat} (hn : ¬ n < 0) (hN : n.toNatClampNeg = N) (hb : N * 4 ≤ 536870912) (hkc : kc = 1 + kc1) (hks : ks = N + ks1) (d : decode cc pc = .ok (.newarray .int, 2))
    (kk : ∀ (q : Nat) (h1 : Hp), q ∉ h.1 → h1 = xh_new h q (.inl (E.1 t, (N, .inl (fun _ => 0)))) → XW p l e R s m args below meth c Q D A KC KS nL h1 kc1 ks1 lv (pc + 2) (.ref q :: st)) : XW p l e R s m args below meth c Q D A KC KS nL h kc ks lv pc (.int n :: st) :=
  xr_newa (aty := .int) (a0 := (N, .inl (fun _ => 0))) C t ht hw rfl (fun cA => rfl) hn hN hb hkc hks d kk
theorem xr_newa_long (C : XC p R s m args c D E A nL own cc KC KS) (t : Nat) (ht : xs_ty[t]? = some .long) (hw : Cond.arrayClass .long ∈ xw_tbl) {n : Int32} {N kc1 ks1 : Nat} (hn : ¬ n < 0) (hN : n.toNatClampNeg = N) (hb : N * 8 ≤ 536870912) (hkc : kc = 1 + kc1) (hks : ks = N + ks1) (d : decode cc pc = .ok (.newarray .long, 2))
    (kk : ∀ (q : Nat) (h1 : Hp), q ∉ h.1 → h1 = xh_new h q (.inl (E.1 t, (N, .inr (.inl (fun _ => 0))))) → XW p l e R s m args below meth c Q D A KC KS nL h1 kc1 ks1 lv (pc + 2) (.ref q :: st)) : XW p l e R s m args below meth c Q D A KC KS nL h kc ks lv pc (.int n :: st) :=
  xr_newa (aty := .long) (a0 := (N, .inr (.inl (fun _ => 0)))) C t ht hw rfl (fun cA => rfl) hn hN hb hkc hks d kk
theorem xr_newa_boolean (C : XC p R s m args c D E A nL own cc KC KS) (t : Nat) (ht : xs_ty[t]? = some .boolean) (hw : Cond.arrayClass .boolean ∈ xw_tbl) {n : Int32} {N kc1 ks1 : Nat} (hn : ¬ n < 0) (hN : n.toNatClampNeg = N) (hb : N * 1 ≤ 536870912) (hkc : kc = 1 + kc1) (hks : ks = N + ks1) (d : decode cc pc = .ok (.newarray .boolean, 2))
    (kk : ∀ (q : Nat) (h1 : Hp), q ∉ h.1 → h1 = xh_new h q (.inl (E.1 t, (N, .inl (fun _ => 0)))) → XW p l e R s m args below meth c Q D A KC KS nL h1 kc1 ks1 lv (pc + 2) (.ref q :: st)) : XW p l e R s m args below meth c Q D A KC KS nL h kc ks lv pc (.int n :: st) :=
  xr_newa (aty := .boolean) (a0 := (N, .inl (fun _ => 0))) C t ht hw rfl (fun cA => rfl) hn hN hb hkc hks d kk
def cpI (E : Ev) (h : Hp) (t a b : Nat) (sp dp n : Int32) (P : Hp → Prop) : Prop := ∃ (n0 n1 : Nat) (f g : Nat → Int32), xh_at h a (.inl (E.1 t, n0, .inl f)) ∧ xh_at h b (.inl (E.1 t, n1, .inl g)) ∧ ¬ sp < 0 ∧ ¬ dp < 0 ∧ ¬ n < 0 ∧ sp.toNatClampNeg + n.toNatClampNeg ≤ n0 ∧ dp.toNatClampNeg + n.toNatClampNeg ≤ n1 ∧ ∀ h1, h1 = xh_set h b (.inl (E.1 t, n1, .inl (va_cpy f g sp.toNatClampNeg dp.toNatClampNeg n.toNatClampNeg))) → P h1
theorem xr_cpI (C : XC p R s m args c D E A nL own cc KC KS) (t : Nat) (ht : xs_ty[t]? = some .int) {idx a b : Nat} {sp dp n : Int32} {P : Hp → Prop} (w1 : Cond.methodLink own idx arraycopyName ∈ xw_tbl) (w2 : Cond.native arraycopyName ∈ xw_tbl) (w3 : Cond.static arraycopyName ∈ xw_tbl) (w4 : Cond.initialized "java/lang/System" ∈ xw_tbl) (hm : cpI E h t a b sp dp n P) (hF : 1 ≤ R.frames) (hL : (st.map fun v => v.category).sum + (nativeFrameWords "java/lang/System" "arraycopy" 5 + 11) ≤ R.locals) (d : decode cc pc = .ok (.invokestatic idx, 3))
    (kk : ∀ h1 : Hp, P h1 → XW p l e R s m args below meth c Q D A KC KS nL h1 kc ks lv (pc + 3) st) : XW p l e R s m args below meth c Q D A KC KS nL h kc ks lv pc (.int n :: .int dp :: .ref b :: .int sp :: .ref a :: st) := by
  intro H locs cells slots ls hP hD hS hc1 hs1 hl
  obtain ⟨n0, n1, f, g, e1, e2, e3, e4, e5, e6, e7, hm⟩ := hm
  obtain ⟨q0, hq0⟩ := xh_get e1
  obtain ⟨q1, hq1⟩ := xh_get e2
  refine va_copyi C.1.1 C.1.2 (by rw [C.2.1.1]; exact hl.1.symm) C.2.1.2 (C.2.2.1 _ w1) (C.2.2.1 _ w2) (C.2.2.1 _ w3) (C.2.2.1 _ w4) C.2.2.2.1 hP hD hS q0 q1 t t hq0 hq1 (xe_ty_at t ht) (xe_ty_at t ht) rfl e3 e4 e5 e6 e7 (fun _ _ => rfl) hF hL d (fun H1 locs1 hP1 hD1 hS1 => ?_)
  rw [xh_put hD e2 hq1] at hP1 hD1
  exact kk _ (hm _ rfl) H1 locs1 cells slots ls hP1 hD1 hS1 hc1 hs1 hl
def cpL (E : Ev) (h : Hp) (t a b : Nat) (sp dp n : Int32) (P : Hp → Prop) : Prop := ∃ (n0 n1 : Nat) (f g : Nat → Int64), xh_at h a (.inl (E.1 t, n0, .inr (.inl f))) ∧ xh_at h b (.inl (E.1 t, n1, .inr (.inl g))) ∧ ¬ sp < 0 ∧ ¬ dp < 0 ∧ ¬ n < 0 ∧ sp.toNatClampNeg + n.toNatClampNeg ≤ n0 ∧ dp.toNatClampNeg + n.toNatClampNeg ≤ n1 ∧ ∀ h1, h1 = xh_set h b (.inl (E.1 t, n1, .inr (.inl (va_cpy f g sp.toNatClampNeg dp.toNatClampNeg n.toNatClampNeg)))) → P h1
theorem xr_cpL (C : XC p R s m args c D E A nL own cc KC KS) (t : Nat) (ht : xs_ty[t]? = some .long) {idx a b : Nat} {sp dp n : Int32} {P : Hp → Prop} (w1 : Cond.methodLink own idx arraycopyName ∈ xw_tbl) (w2 : Cond.native arraycopyName ∈ xw_tbl) (w3 : Cond.static arraycopyName ∈ xw_tbl) (w4 : Cond.initialized "java/lang/System" ∈ xw_tbl) (hm : cpL E h t a b sp dp n P) (hF : 1 ≤ R.frames) (hL : (st.map fun v => v.category).sum + (nativeFrameWords "java/lang/System" "arraycopy" 5 + 11) ≤ R.locals) (d : decode cc pc = .ok (.invokestatic idx, 3))
    (kk : ∀ h1 : Hp, P h1 → XW p l e R s m args below meth c Q D A KC KS nL h1 kc ks lv (pc + 3) st) : XW p l e R s m args below meth c Q D A KC KS nL h kc ks lv pc (.int n :: .int dp :: .ref b :: .int sp :: .ref a :: st) := by
  intro H locs cells slots ls hP hD hS hc1 hs1 hl
  obtain ⟨n0, n1, f, g, e1, e2, e3, e4, e5, e6, e7, hm⟩ := hm
  obtain ⟨q0, hq0⟩ := xh_get e1
  obtain ⟨q1, hq1⟩ := xh_get e2
  refine va_copyl C.1.1 C.1.2 (by rw [C.2.1.1]; exact hl.1.symm) C.2.1.2 (C.2.2.1 _ w1) (C.2.2.1 _ w2) (C.2.2.1 _ w3) (C.2.2.1 _ w4) C.2.2.2.1 hP hD hS q0 q1 t t hq0 hq1 (xe_ty_at t ht) (xe_ty_at t ht) rfl e3 e4 e5 e6 e7 (fun _ _ => rfl) hF hL d (fun H1 locs1 hP1 hD1 hS1 => ?_)
  rw [xh_put hD e2 hq1] at hP1 hD1
  exact kk _ (hm _ rfl) H1 locs1 cells slots ls hP1 hD1 hS1 hc1 hs1 hl
def cpR (E : Ev) (h : Hp) (t a b : Nat) (sp dp n : Int32) (P : Hp → Prop) : Prop := ∃ (n0 n1 : Nat) (f g : Nat → Option Nat), xh_at h a (.inl (E.1 t, n0, .inr (.inr (.inr (.inr f))))) ∧ xh_at h b (.inl (E.1 t, n1, .inr (.inr (.inr (.inr g))))) ∧ ¬ sp < 0 ∧ ¬ dp < 0 ∧ ¬ n < 0 ∧ sp.toNatClampNeg + n.toNatClampNeg ≤ n0 ∧ dp.toNatClampNeg + n.toNatClampNeg ≤ n1 ∧ (∀ i : Nat, i < n.toNatClampNeg → ∀ y : Nat, f (sp.toNatClampNeg + i) = some y → xo_at h y) ∧ ∀ h1, h1 = xh_set h b (.inl (E.1 t, n1, .inr (.inr (.inr (.inr (va_cpy f g sp.toNatClampNeg dp.toNatClampNeg n.toNatClampNeg)))))) → P h1
theorem xr_cpR (C : XC p R s m args c D E A nL own cc KC KS) (t : Nat) (ht : xs_ty[t]? = some (.object "java/lang/Object")) {idx a b : Nat} {sp dp n : Int32} {P : Hp → Prop} (w1 : Cond.methodLink own idx arraycopyName ∈ xw_tbl) (w2 : Cond.native arraycopyName ∈ xw_tbl) (w3 : Cond.static arraycopyName ∈ xw_tbl) (w4 : Cond.initialized "java/lang/System" ∈ xw_tbl) (hm : cpR E h t a b sp dp n P) (hF : 1 ≤ R.frames) (hL : (st.map fun v => v.category).sum + (nativeFrameWords "java/lang/System" "arraycopy" 5 + 11) ≤ R.locals) (d : decode cc pc = .ok (.invokestatic idx, 3))
    (kk : ∀ h1 : Hp, P h1 → XW p l e R s m args below meth c Q D A KC KS nL h1 kc ks lv (pc + 3) st) : XW p l e R s m args below meth c Q D A KC KS nL h kc ks lv pc (.int n :: .int dp :: .ref b :: .int sp :: .ref a :: st) := by
  intro H locs cells slots ls hP hD hS hc1 hs1 hl
  obtain ⟨n0, n1, f, g, e1, e2, e3, e4, e5, e6, e7, e8, hm⟩ := hm
  obtain ⟨q0, hq0⟩ := xh_get e1
  obtain ⟨q1, hq1⟩ := xh_get e2
  refine va_copyM C.1.1 C.1.2 (by rw [C.2.1.1]; exact hl.1.symm) C.2.1.2 (C.2.2.1 _ w1) (C.2.2.1 _ w2) (C.2.2.1 _ w3) (C.2.2.1 _ w4) C.2.2.2.1 hP hD hS q0 q1 t t hq0 hq1 (xe_ty_at t ht) (xe_ty_at t ht) e3 e4 e5 e6 e7 (fun i hi y hy => xr_any C hP (e8 i hi y hy)) hF hL d (fun H1 locs1 hP1 hD1 hS1 => ?_)
  rw [xh_put hD e2 hq1] at hP1 hD1
  exact kk _ (hm _ rfl) H1 locs1 cells slots ls hP1 hD1 hS1 hc1 hs1 hl
end XO
end
