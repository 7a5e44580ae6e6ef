-- ===== PART A: goes FIRST, ahead of the names: the tables' words, and 'selects' of the private methods out of them =====
/-- a private method of a class that the tables say can be made, by its rows of tables_1 -/
def lw_okq (q : MethodName × Nat) : Prop := (q.1.cls ≠ "java/lang/invoke/MethodHandle" ∧ q.1.cls ≠ "java/lang/invoke/VarHandle") ∧ Cond.instantiable q.1.cls q.2 ∈ tables_1 ∧ Cond.privateMethod q.1 ∈ tables_1 ∧ Cond.instanceMethod q.1 ∈ tables_1
theorem lw_p0 : lw_okq (⟨"java/util/ArrayList", "add", "(Ljava/lang/Object;[Ljava/lang/Object;I)V"⟩, 3) := ⟨⟨by decide +kernel, by decide +kernel⟩, List.mem_of_getElem? (i := 60) (by decide +kernel), List.mem_of_getElem? (i := 343) (by decide +kernel), List.mem_of_getElem? (i := 344) (by decide +kernel)⟩
theorem lw_p1 : lw_okq (⟨"java/util/ArrayList", "grow", "()[Ljava/lang/Object;"⟩, 3) := ⟨⟨by decide +kernel, by decide +kernel⟩, List.mem_of_getElem? (i := 60) (by decide +kernel), List.mem_of_getElem? (i := 347) (by decide +kernel), List.mem_of_getElem? (i := 348) (by decide +kernel)⟩
theorem lw_p2 : lw_okq (⟨"java/util/ArrayList", "grow", "(I)[Ljava/lang/Object;"⟩, 3) := ⟨⟨by decide +kernel, by decide +kernel⟩, List.mem_of_getElem? (i := 60) (by decide +kernel), List.mem_of_getElem? (i := 351) (by decide +kernel), List.mem_of_getElem? (i := 352) (by decide +kernel)⟩
theorem lw_p3 : lw_okq (⟨"CardPayments$Terminal", "sendToCard", "(II)V"⟩, 14) := ⟨⟨by decide +kernel, by decide +kernel⟩, List.mem_of_getElem? (i := 419) (by decide +kernel), List.mem_of_getElem? (i := 508) (by decide +kernel), List.mem_of_getElem? (i := 509) (by decide +kernel)⟩
theorem lw_p4 : lw_okq (⟨"CardPayments$Message", "writeField", "(IJ)V"⟩, 6) := ⟨⟨by decide +kernel, by decide +kernel⟩, List.mem_of_getElem? (i := 519) (by decide +kernel), List.mem_of_getElem? (i := 561) (by decide +kernel), List.mem_of_getElem? (i := 562) (by decide +kernel)⟩
theorem lw_p5 : lw_okq (⟨"CardPayments$Terminal", "waitFor", "(I)V"⟩, 14) := ⟨⟨by decide +kernel, by decide +kernel⟩, List.mem_of_getElem? (i := 419) (by decide +kernel), List.mem_of_getElem? (i := 567) (by decide +kernel), List.mem_of_getElem? (i := 568) (by decide +kernel)⟩
theorem lw_p6 : lw_okq (⟨"CardPayments$Message", "isFieldAt", "(II)Z"⟩, 6) := ⟨⟨by decide +kernel, by decide +kernel⟩, List.mem_of_getElem? (i := 519) (by decide +kernel), List.mem_of_getElem? (i := 587) (by decide +kernel), List.mem_of_getElem? (i := 588) (by decide +kernel)⟩
theorem lw_p7 : lw_okq (⟨"CardPayments$Message", "numberAt", "(II)J"⟩, 6) := ⟨⟨by decide +kernel, by decide +kernel⟩, List.mem_of_getElem? (i := 519) (by decide +kernel), List.mem_of_getElem? (i := 591) (by decide +kernel), List.mem_of_getElem? (i := 592) (by decide +kernel)⟩
theorem lw_p8 : lw_okq (⟨"CardPayments$Host", "takesRequest", "(LCardPayments$Content;)Z"⟩, 3) := ⟨⟨by decide +kernel, by decide +kernel⟩, List.mem_of_getElem? (i := 174) (by decide +kernel), List.mem_of_getElem? (i := 600) (by decide +kernel), List.mem_of_getElem? (i := 601) (by decide +kernel)⟩
theorem lw_p9 : lw_okq (⟨"CardPayments$Host", "isFromTerminal", "(LCardPayments$Content;LCardPayments$Payment;)Z"⟩, 3) := ⟨⟨by decide +kernel, by decide +kernel⟩, List.mem_of_getElem? (i := 174) (by decide +kernel), List.mem_of_getElem? (i := 613) (by decide +kernel), List.mem_of_getElem? (i := 614) (by decide +kernel)⟩
theorem lw_p10 : lw_okq (⟨"CardPayments$Seals", "key", "(II)LCardPayments$Seals;"⟩, 5) := ⟨⟨by decide +kernel, by decide +kernel⟩, List.mem_of_getElem? (i := 54) (by decide +kernel), List.mem_of_getElem? (i := 622) (by decide +kernel), List.mem_of_getElem? (i := 623) (by decide +kernel)⟩
theorem lw_p11 : lw_okq (⟨"CardPayments$Seals", "with", "(J)LCardPayments$Seals;"⟩, 5) := ⟨⟨by decide +kernel, by decide +kernel⟩, List.mem_of_getElem? (i := 54) (by decide +kernel), List.mem_of_getElem? (i := 626) (by decide +kernel), List.mem_of_getElem? (i := 627) (by decide +kernel)⟩
theorem lw_p12 : lw_okq (⟨"CardPayments$Seals", "isTheirs", "(LCardPayments$Seal;)Z"⟩, 5) := ⟨⟨by decide +kernel, by decide +kernel⟩, List.mem_of_getElem? (i := 54) (by decide +kernel), List.mem_of_getElem? (i := 637) (by decide +kernel), List.mem_of_getElem? (i := 638) (by decide +kernel)⟩
theorem lw_p13 : lw_okq (⟨"CardPayments$Host", "wordFor", "(LCardPayments$Payment;)I"⟩, 3) := ⟨⟨by decide +kernel, by decide +kernel⟩, List.mem_of_getElem? (i := 174) (by decide +kernel), List.mem_of_getElem? (i := 641) (by decide +kernel), List.mem_of_getElem? (i := 642) (by decide +kernel)⟩
theorem lw_p14 : lw_okq (⟨"CardPayments$Host", "isAnswerOfCard", "(LCardPayments$Payment;)Z"⟩, 3) := ⟨⟨by decide +kernel, by decide +kernel⟩, List.mem_of_getElem? (i := 174) (by decide +kernel), List.mem_of_getElem? (i := 645) (by decide +kernel), List.mem_of_getElem? (i := 646) (by decide +kernel)⟩
theorem lw_p15 : lw_okq (⟨"CardPayments$Host", "take", "(LCardPayments$Account;LCardPayments$Payment;)V"⟩, 3) := ⟨⟨by decide +kernel, by decide +kernel⟩, List.mem_of_getElem? (i := 174) (by decide +kernel), List.mem_of_getElem? (i := 657) (by decide +kernel), List.mem_of_getElem? (i := 658) (by decide +kernel)⟩
def lw_privs_1 : List (MethodName × Nat) := [(⟨"java/util/ArrayList", "add", "(Ljava/lang/Object;[Ljava/lang/Object;I)V"⟩, 3), (⟨"java/util/ArrayList", "grow", "()[Ljava/lang/Object;"⟩, 3), (⟨"java/util/ArrayList", "grow", "(I)[Ljava/lang/Object;"⟩, 3), (⟨"CardPayments$Terminal", "sendToCard", "(II)V"⟩, 14), (⟨"CardPayments$Message", "writeField", "(IJ)V"⟩, 6), (⟨"CardPayments$Terminal", "waitFor", "(I)V"⟩, 14), (⟨"CardPayments$Message", "isFieldAt", "(II)Z"⟩, 6), (⟨"CardPayments$Message", "numberAt", "(II)J"⟩, 6), (⟨"CardPayments$Host", "takesRequest", "(LCardPayments$Content;)Z"⟩, 3), (⟨"CardPayments$Host", "isFromTerminal", "(LCardPayments$Content;LCardPayments$Payment;)Z"⟩, 3), (⟨"CardPayments$Seals", "key", "(II)LCardPayments$Seals;"⟩, 5), (⟨"CardPayments$Seals", "with", "(J)LCardPayments$Seals;"⟩, 5), (⟨"CardPayments$Seals", "isTheirs", "(LCardPayments$Seal;)Z"⟩, 5), (⟨"CardPayments$Host", "wordFor", "(LCardPayments$Payment;)I"⟩, 3), (⟨"CardPayments$Host", "isAnswerOfCard", "(LCardPayments$Payment;)Z"⟩, 3), (⟨"CardPayments$Host", "take", "(LCardPayments$Account;LCardPayments$Payment;)V"⟩, 3)]
theorem lw_r1 : ∀ q ∈ lw_privs_1, lw_okq q := List.forall_mem_cons.mpr ⟨lw_p0, List.forall_mem_cons.mpr ⟨lw_p1, List.forall_mem_cons.mpr ⟨lw_p2, List.forall_mem_cons.mpr ⟨lw_p3, List.forall_mem_cons.mpr ⟨lw_p4, List.forall_mem_cons.mpr ⟨lw_p5, List.forall_mem_cons.mpr ⟨lw_p6, List.forall_mem_cons.mpr ⟨lw_p7, List.forall_mem_cons.mpr ⟨lw_p8, List.forall_mem_cons.mpr ⟨lw_p9, List.forall_mem_cons.mpr ⟨lw_p10, List.forall_mem_cons.mpr ⟨lw_p11, List.forall_mem_cons.mpr ⟨lw_p12, List.forall_mem_cons.mpr ⟨lw_p13, List.forall_mem_cons.mpr ⟨lw_p14, List.forall_mem_cons.mpr ⟨lw_p15, fun _ h => absurd h List.not_mem_nil⟩⟩⟩⟩⟩⟩⟩⟩⟩⟩⟩⟩⟩⟩⟩⟩
theorem lw_p16 : lw_okq (⟨"CardPayments$Host", "takesClear", "(LCardPayments$Content;)Z"⟩, 3) := ⟨⟨by decide +kernel, by decide +kernel⟩, List.mem_of_getElem? (i := 174) (by decide +kernel), List.mem_of_getElem? (i := 705) (by decide +kernel), List.mem_of_getElem? (i := 706) (by decide +kernel)⟩
theorem lw_p17 : lw_okq (⟨"CardPayments$Terminal", "takeCard", "(LCardPayments$Content;)V"⟩, 14) := ⟨⟨by decide +kernel, by decide +kernel⟩, List.mem_of_getElem? (i := 419) (by decide +kernel), List.mem_of_getElem? (i := 717) (by decide +kernel), List.mem_of_getElem? (i := 718) (by decide +kernel)⟩
theorem lw_p18 : lw_okq (⟨"CardPayments$Terminal", "end", "(I)V"⟩, 14) := ⟨⟨by decide +kernel, by decide +kernel⟩, List.mem_of_getElem? (i := 419) (by decide +kernel), List.mem_of_getElem? (i := 729) (by decide +kernel), List.mem_of_getElem? (i := 730) (by decide +kernel)⟩
theorem lw_p19 : lw_okq (⟨"CardPayments$Terminal", "ask", "(I)V"⟩, 14) := ⟨⟨by decide +kernel, by decide +kernel⟩, List.mem_of_getElem? (i := 419) (by decide +kernel), List.mem_of_getElem? (i := 733) (by decide +kernel), List.mem_of_getElem? (i := 734) (by decide +kernel)⟩
theorem lw_p20 : lw_okq (⟨"CardPayments$Terminal", "takePinned", "(LCardPayments$Content;)V"⟩, 14) := ⟨⟨by decide +kernel, by decide +kernel⟩, List.mem_of_getElem? (i := 419) (by decide +kernel), List.mem_of_getElem? (i := 738) (by decide +kernel), List.mem_of_getElem? (i := 739) (by decide +kernel)⟩
theorem lw_p21 : lw_okq (⟨"CardPayments$Terminal", "takeAnswer", "(LCardPayments$Content;)V"⟩, 14) := ⟨⟨by decide +kernel, by decide +kernel⟩, List.mem_of_getElem? (i := 419) (by decide +kernel), List.mem_of_getElem? (i := 742) (by decide +kernel), List.mem_of_getElem? (i := 743) (by decide +kernel)⟩
theorem lw_p22 : lw_okq (⟨"CardPayments$Terminal", "sendToHost", "(ILCardPayments$Payment;)Z"⟩, 14) := ⟨⟨by decide +kernel, by decide +kernel⟩, List.mem_of_getElem? (i := 419) (by decide +kernel), List.mem_of_getElem? (i := 746) (by decide +kernel), List.mem_of_getElem? (i := 747) (by decide +kernel)⟩
theorem lw_p23 : lw_okq (⟨"CardPayments$Terminal", "isGoodWithoutHost", "(LCardPayments$Content;)Z"⟩, 14) := ⟨⟨by decide +kernel, by decide +kernel⟩, List.mem_of_getElem? (i := 419) (by decide +kernel), List.mem_of_getElem? (i := 752) (by decide +kernel), List.mem_of_getElem? (i := 753) (by decide +kernel)⟩
theorem lw_p24 : lw_okq (⟨"CardPayments$Terminal", "takesWord", "(LCardPayments$Content;)Z"⟩, 14) := ⟨⟨by decide +kernel, by decide +kernel⟩, List.mem_of_getElem? (i := 419) (by decide +kernel), List.mem_of_getElem? (i := 757) (by decide +kernel), List.mem_of_getElem? (i := 758) (by decide +kernel)⟩
theorem lw_p25 : lw_okq (⟨"CardPayments$Terminal", "takeLast", "(LCardPayments$Content;)V"⟩, 14) := ⟨⟨by decide +kernel, by decide +kernel⟩, List.mem_of_getElem? (i := 419) (by decide +kernel), List.mem_of_getElem? (i := 762) (by decide +kernel), List.mem_of_getElem? (i := 763) (by decide +kernel)⟩
theorem lw_p26 : lw_okq (⟨"CardPayments$Card", "takesBegin", "(LCardPayments$Content;)Z"⟩, 12) := ⟨⟨by decide +kernel, by decide +kernel⟩, List.mem_of_getElem? (i := 223) (by decide +kernel), List.mem_of_getElem? (i := 775) (by decide +kernel), List.mem_of_getElem? (i := 776) (by decide +kernel)⟩
theorem lw_p27 : lw_okq (⟨"CardPayments$Card", "losesPower", "()Z"⟩, 12) := ⟨⟨by decide +kernel, by decide +kernel⟩, List.mem_of_getElem? (i := 223) (by decide +kernel), List.mem_of_getElem? (i := 780) (by decide +kernel), List.mem_of_getElem? (i := 781) (by decide +kernel)⟩
theorem lw_p28 : lw_okq (⟨"CardPayments$Card", "reply", "(LCardPayments$Content;I)V"⟩, 12) := ⟨⟨by decide +kernel, by decide +kernel⟩, List.mem_of_getElem? (i := 223) (by decide +kernel), List.mem_of_getElem? (i := 786) (by decide +kernel), List.mem_of_getElem? (i := 787) (by decide +kernel)⟩
theorem lw_p29 : lw_okq (⟨"CardPayments$Card", "takesPin", "(LCardPayments$Content;)Z"⟩, 12) := ⟨⟨by decide +kernel, by decide +kernel⟩, List.mem_of_getElem? (i := 223) (by decide +kernel), List.mem_of_getElem? (i := 791) (by decide +kernel), List.mem_of_getElem? (i := 792) (by decide +kernel)⟩
theorem lw_p30 : lw_okq (⟨"CardPayments$Card", "replyPinned", "(LCardPayments$Content;II)V"⟩, 12) := ⟨⟨by decide +kernel, by decide +kernel⟩, List.mem_of_getElem? (i := 223) (by decide +kernel), List.mem_of_getElem? (i := 795) (by decide +kernel), List.mem_of_getElem? (i := 796) (by decide +kernel)⟩
theorem lw_p31 : lw_okq (⟨"CardPayments$Card", "takesAsk", "(LCardPayments$Content;)Z"⟩, 12) := ⟨⟨by decide +kernel, by decide +kernel⟩, List.mem_of_getElem? (i := 223) (by decide +kernel), List.mem_of_getElem? (i := 799) (by decide +kernel), List.mem_of_getElem? (i := 800) (by decide +kernel)⟩
def lw_privs_2 : List (MethodName × Nat) := [(⟨"CardPayments$Host", "takesClear", "(LCardPayments$Content;)Z"⟩, 3), (⟨"CardPayments$Terminal", "takeCard", "(LCardPayments$Content;)V"⟩, 14), (⟨"CardPayments$Terminal", "end", "(I)V"⟩, 14), (⟨"CardPayments$Terminal", "ask", "(I)V"⟩, 14), (⟨"CardPayments$Terminal", "takePinned", "(LCardPayments$Content;)V"⟩, 14), (⟨"CardPayments$Terminal", "takeAnswer", "(LCardPayments$Content;)V"⟩, 14), (⟨"CardPayments$Terminal", "sendToHost", "(ILCardPayments$Payment;)Z"⟩, 14), (⟨"CardPayments$Terminal", "isGoodWithoutHost", "(LCardPayments$Content;)Z"⟩, 14), (⟨"CardPayments$Terminal", "takesWord", "(LCardPayments$Content;)Z"⟩, 14), (⟨"CardPayments$Terminal", "takeLast", "(LCardPayments$Content;)V"⟩, 14), (⟨"CardPayments$Card", "takesBegin", "(LCardPayments$Content;)Z"⟩, 12), (⟨"CardPayments$Card", "losesPower", "()Z"⟩, 12), (⟨"CardPayments$Card", "reply", "(LCardPayments$Content;I)V"⟩, 12), (⟨"CardPayments$Card", "takesPin", "(LCardPayments$Content;)Z"⟩, 12), (⟨"CardPayments$Card", "replyPinned", "(LCardPayments$Content;II)V"⟩, 12), (⟨"CardPayments$Card", "takesAsk", "(LCardPayments$Content;)Z"⟩, 12)]
theorem lw_r2 : ∀ q ∈ lw_privs_2, lw_okq q := List.forall_mem_cons.mpr ⟨lw_p16, List.forall_mem_cons.mpr ⟨lw_p17, List.forall_mem_cons.mpr ⟨lw_p18, List.forall_mem_cons.mpr ⟨lw_p19, List.forall_mem_cons.mpr ⟨lw_p20, List.forall_mem_cons.mpr ⟨lw_p21, List.forall_mem_cons.mpr ⟨lw_p22, List.forall_mem_cons.mpr ⟨lw_p23, List.forall_mem_cons.mpr ⟨lw_p24, List.forall_mem_cons.mpr ⟨lw_p25, List.forall_mem_cons.mpr ⟨lw_p26, List.forall_mem_cons.mpr ⟨lw_p27, List.forall_mem_cons.mpr ⟨lw_p28, List.forall_mem_cons.mpr ⟨lw_p29, List.forall_mem_cons.mpr ⟨lw_p30, List.forall_mem_cons.mpr ⟨lw_p31, fun _ h => absurd h List.not_mem_nil⟩⟩⟩⟩⟩⟩⟩⟩⟩⟩⟩⟩⟩⟩⟩⟩
theorem lw_p32 : lw_okq (⟨"CardPayments$Card", "answerTo", "(IJ)I"⟩, 12) := ⟨⟨by decide +kernel, by decide +kernel⟩, List.mem_of_getElem? (i := 223) (by decide +kernel), List.mem_of_getElem? (i := 804) (by decide +kernel), List.mem_of_getElem? (i := 805) (by decide +kernel)⟩
theorem lw_p33 : lw_okq (⟨"CardPayments$Card", "keepAsked", "(LCardPayments$Content;I)V"⟩, 12) := ⟨⟨by decide +kernel, by decide +kernel⟩, List.mem_of_getElem? (i := 223) (by decide +kernel), List.mem_of_getElem? (i := 808) (by decide +kernel), List.mem_of_getElem? (i := 809) (by decide +kernel)⟩
theorem lw_p34 : lw_okq (⟨"CardPayments$Card", "takesEnd", "(LCardPayments$Content;)Z"⟩, 12) := ⟨⟨by decide +kernel, by decide +kernel⟩, List.mem_of_getElem? (i := 223) (by decide +kernel), List.mem_of_getElem? (i := 814) (by decide +kernel), List.mem_of_getElem? (i := 815) (by decide +kernel)⟩
theorem lw_p35 : lw_okq (⟨"CardPayments$Card", "isApproved", "(LCardPayments$Content;)Z"⟩, 12) := ⟨⟨by decide +kernel, by decide +kernel⟩, List.mem_of_getElem? (i := 223) (by decide +kernel), List.mem_of_getElem? (i := 818) (by decide +kernel), List.mem_of_getElem? (i := 819) (by decide +kernel)⟩
theorem lw_p36 : lw_okq (⟨"CardPaymentsModel", "isMessage", "(I)Z"⟩, 63) := ⟨⟨by decide +kernel, by decide +kernel⟩, List.mem_of_getElem? (i := 936) (by decide +kernel), List.mem_of_getElem? (i := 1138) (by decide +kernel), List.mem_of_getElem? (i := 1139) (by decide +kernel)⟩
theorem lw_p37 : lw_okq (⟨"CardPaymentsModel", "remove", "(I)V"⟩, 63) := ⟨⟨by decide +kernel, by decide +kernel⟩, List.mem_of_getElem? (i := 936) (by decide +kernel), List.mem_of_getElem? (i := 1142) (by decide +kernel), List.mem_of_getElem? (i := 1143) (by decide +kernel)⟩
theorem lw_p38 : lw_okq (⟨"CardPaymentsModel", "read", "()I"⟩, 63) := ⟨⟨by decide +kernel, by decide +kernel⟩, List.mem_of_getElem? (i := 936) (by decide +kernel), List.mem_of_getElem? (i := 1146) (by decide +kernel), List.mem_of_getElem? (i := 1147) (by decide +kernel)⟩
theorem lw_p39 : lw_okq (⟨"CardPaymentsModel", "toCard", "(II)Z"⟩, 63) := ⟨⟨by decide +kernel, by decide +kernel⟩, List.mem_of_getElem? (i := 936) (by decide +kernel), List.mem_of_getElem? (i := 1157) (by decide +kernel), List.mem_of_getElem? (i := 1158) (by decide +kernel)⟩
theorem lw_p40 : lw_okq (⟨"CardPaymentsModel", "writes", "(I)Z"⟩, 63) := ⟨⟨by decide +kernel, by decide +kernel⟩, List.mem_of_getElem? (i := 936) (by decide +kernel), List.mem_of_getElem? (i := 1162) (by decide +kernel), List.mem_of_getElem? (i := 1163) (by decide +kernel)⟩
theorem lw_p41 : lw_okq (⟨"CardPaymentsModel", "begin", "(J)V"⟩, 63) := ⟨⟨by decide +kernel, by decide +kernel⟩, List.mem_of_getElem? (i := 936) (by decide +kernel), List.mem_of_getElem? (i := 1167) (by decide +kernel), List.mem_of_getElem? (i := 1168) (by decide +kernel)⟩
theorem lw_p42 : lw_okq (⟨"CardPaymentsModel", "more", "(J)V"⟩, 63) := ⟨⟨by decide +kernel, by decide +kernel⟩, List.mem_of_getElem? (i := 936) (by decide +kernel), List.mem_of_getElem? (i := 1171) (by decide +kernel), List.mem_of_getElem? (i := 1172) (by decide +kernel)⟩
theorem lw_p43 : lw_okq (⟨"CardPaymentsModel", "seal", "(IJ)I"⟩, 63) := ⟨⟨by decide +kernel, by decide +kernel⟩, List.mem_of_getElem? (i := 936) (by decide +kernel), List.mem_of_getElem? (i := 1175) (by decide +kernel), List.mem_of_getElem? (i := 1176) (by decide +kernel)⟩
theorem lw_p44 : lw_okq (⟨"CardPaymentsModel", "find", "(IJ)I"⟩, 63) := ⟨⟨by decide +kernel, by decide +kernel⟩, List.mem_of_getElem? (i := 936) (by decide +kernel), List.mem_of_getElem? (i := 1179) (by decide +kernel), List.mem_of_getElem? (i := 1180) (by decide +kernel)⟩
theorem lw_p45 : lw_okq (⟨"CardPaymentsModel", "reply", "(II)V"⟩, 63) := ⟨⟨by decide +kernel, by decide +kernel⟩, List.mem_of_getElem? (i := 936) (by decide +kernel), List.mem_of_getElem? (i := 1183) (by decide +kernel), List.mem_of_getElem? (i := 1184) (by decide +kernel)⟩
theorem lw_p46 : lw_okq (⟨"CardPaymentsModel", "send", "(IIIII)Z"⟩, 63) := ⟨⟨by decide +kernel, by decide +kernel⟩, List.mem_of_getElem? (i := 936) (by decide +kernel), List.mem_of_getElem? (i := 1187) (by decide +kernel), List.mem_of_getElem? (i := 1188) (by decide +kernel)⟩
theorem lw_p47 : lw_okq (⟨"CardPaymentsModel", "lie", "(IIIII)V"⟩, 63) := ⟨⟨by decide +kernel, by decide +kernel⟩, List.mem_of_getElem? (i := 936) (by decide +kernel), List.mem_of_getElem? (i := 1191) (by decide +kernel), List.mem_of_getElem? (i := 1192) (by decide +kernel)⟩
def lw_privs_3 : List (MethodName × Nat) := [(⟨"CardPayments$Card", "answerTo", "(IJ)I"⟩, 12), (⟨"CardPayments$Card", "keepAsked", "(LCardPayments$Content;I)V"⟩, 12), (⟨"CardPayments$Card", "takesEnd", "(LCardPayments$Content;)Z"⟩, 12), (⟨"CardPayments$Card", "isApproved", "(LCardPayments$Content;)Z"⟩, 12), (⟨"CardPaymentsModel", "isMessage", "(I)Z"⟩, 63), (⟨"CardPaymentsModel", "remove", "(I)V"⟩, 63), (⟨"CardPaymentsModel", "read", "()I"⟩, 63), (⟨"CardPaymentsModel", "toCard", "(II)Z"⟩, 63), (⟨"CardPaymentsModel", "writes", "(I)Z"⟩, 63), (⟨"CardPaymentsModel", "begin", "(J)V"⟩, 63), (⟨"CardPaymentsModel", "more", "(J)V"⟩, 63), (⟨"CardPaymentsModel", "seal", "(IJ)I"⟩, 63), (⟨"CardPaymentsModel", "find", "(IJ)I"⟩, 63), (⟨"CardPaymentsModel", "reply", "(II)V"⟩, 63), (⟨"CardPaymentsModel", "send", "(IIIII)Z"⟩, 63), (⟨"CardPaymentsModel", "lie", "(IIIII)V"⟩, 63)]
theorem lw_r3 : ∀ q ∈ lw_privs_3, lw_okq q := List.forall_mem_cons.mpr ⟨lw_p32, List.forall_mem_cons.mpr ⟨lw_p33, List.forall_mem_cons.mpr ⟨lw_p34, List.forall_mem_cons.mpr ⟨lw_p35, List.forall_mem_cons.mpr ⟨lw_p36, List.forall_mem_cons.mpr ⟨lw_p37, List.forall_mem_cons.mpr ⟨lw_p38, List.forall_mem_cons.mpr ⟨lw_p39, List.forall_mem_cons.mpr ⟨lw_p40, List.forall_mem_cons.mpr ⟨lw_p41, List.forall_mem_cons.mpr ⟨lw_p42, List.forall_mem_cons.mpr ⟨lw_p43, List.forall_mem_cons.mpr ⟨lw_p44, List.forall_mem_cons.mpr ⟨lw_p45, List.forall_mem_cons.mpr ⟨lw_p46, List.forall_mem_cons.mpr ⟨lw_p47, fun _ h => absurd h List.not_mem_nil⟩⟩⟩⟩⟩⟩⟩⟩⟩⟩⟩⟩⟩⟩⟩⟩
theorem lw_p48 : lw_okq (⟨"CardPaymentsModel", "typePin", "(I)V"⟩, 63) := ⟨⟨by decide +kernel, by decide +kernel⟩, List.mem_of_getElem? (i := 936) (by decide +kernel), List.mem_of_getElem? (i := 1195) (by decide +kernel), List.mem_of_getElem? (i := 1196) (by decide +kernel)⟩
theorem lw_p49 : lw_okq (⟨"CardPaymentsModel", "answer", "(I)V"⟩, 63) := ⟨⟨by decide +kernel, by decide +kernel⟩, List.mem_of_getElem? (i := 936) (by decide +kernel), List.mem_of_getElem? (i := 1199) (by decide +kernel), List.mem_of_getElem? (i := 1200) (by decide +kernel)⟩
theorem lw_p50 : lw_okq (⟨"CardPaymentsModel", "finish", "(I)V"⟩, 63) := ⟨⟨by decide +kernel, by decide +kernel⟩, List.mem_of_getElem? (i := 936) (by decide +kernel), List.mem_of_getElem? (i := 1204) (by decide +kernel), List.mem_of_getElem? (i := 1205) (by decide +kernel)⟩
theorem lw_p51 : lw_okq (⟨"CardPaymentsModel", "isGood", "(IJJ)Z"⟩, 63) := ⟨⟨by decide +kernel, by decide +kernel⟩, List.mem_of_getElem? (i := 936) (by decide +kernel), List.mem_of_getElem? (i := 1209) (by decide +kernel), List.mem_of_getElem? (i := 1210) (by decide +kernel)⟩
theorem lw_p52 : lw_okq (⟨"CardPaymentsModel", "toTerminal", "(II)Z"⟩, 63) := ⟨⟨by decide +kernel, by decide +kernel⟩, List.mem_of_getElem? (i := 936) (by decide +kernel), List.mem_of_getElem? (i := 1214) (by decide +kernel), List.mem_of_getElem? (i := 1215) (by decide +kernel)⟩
theorem lw_p53 : lw_okq (⟨"CardPaymentsModel", "takeCard", "(I)V"⟩, 63) := ⟨⟨by decide +kernel, by decide +kernel⟩, List.mem_of_getElem? (i := 936) (by decide +kernel), List.mem_of_getElem? (i := 1218) (by decide +kernel), List.mem_of_getElem? (i := 1219) (by decide +kernel)⟩
theorem lw_p54 : lw_okq (⟨"CardPaymentsModel", "end", "(II)V"⟩, 63) := ⟨⟨by decide +kernel, by decide +kernel⟩, List.mem_of_getElem? (i := 936) (by decide +kernel), List.mem_of_getElem? (i := 1222) (by decide +kernel), List.mem_of_getElem? (i := 1223) (by decide +kernel)⟩
theorem lw_p55 : lw_okq (⟨"CardPaymentsModel", "toItsCard", "(III)V"⟩, 63) := ⟨⟨by decide +kernel, by decide +kernel⟩, List.mem_of_getElem? (i := 936) (by decide +kernel), List.mem_of_getElem? (i := 1226) (by decide +kernel), List.mem_of_getElem? (i := 1227) (by decide +kernel)⟩
theorem lw_p56 : lw_okq (⟨"CardPaymentsModel", "ask", "(I)V"⟩, 63) := ⟨⟨by decide +kernel, by decide +kernel⟩, List.mem_of_getElem? (i := 936) (by decide +kernel), List.mem_of_getElem? (i := 1230) (by decide +kernel), List.mem_of_getElem? (i := 1231) (by decide +kernel)⟩
theorem lw_p57 : lw_okq (⟨"CardPaymentsModel", "takeAnswer", "(I)V"⟩, 63) := ⟨⟨by decide +kernel, by decide +kernel⟩, List.mem_of_getElem? (i := 936) (by decide +kernel), List.mem_of_getElem? (i := 1234) (by decide +kernel), List.mem_of_getElem? (i := 1235) (by decide +kernel)⟩
theorem lw_p58 : lw_okq (⟨"CardPaymentsModel", "fill", "(IJJ)V"⟩, 63) := ⟨⟨by decide +kernel, by decide +kernel⟩, List.mem_of_getElem? (i := 936) (by decide +kernel), List.mem_of_getElem? (i := 1238) (by decide +kernel), List.mem_of_getElem? (i := 1239) (by decide +kernel)⟩
theorem lw_p59 : lw_okq (⟨"CardPaymentsModel", "sign", "(II)V"⟩, 63) := ⟨⟨by decide +kernel, by decide +kernel⟩, List.mem_of_getElem? (i := 936) (by decide +kernel), List.mem_of_getElem? (i := 1242) (by decide +kernel), List.mem_of_getElem? (i := 1243) (by decide +kernel)⟩
theorem lw_p60 : lw_okq (⟨"CardPaymentsModel", "takeWord", "(I)Z"⟩, 63) := ⟨⟨by decide +kernel, by decide +kernel⟩, List.mem_of_getElem? (i := 936) (by decide +kernel), List.mem_of_getElem? (i := 1246) (by decide +kernel), List.mem_of_getElem? (i := 1247) (by decide +kernel)⟩
theorem lw_p61 : lw_okq (⟨"CardPaymentsModel", "toHost", "(I)Z"⟩, 63) := ⟨⟨by decide +kernel, by decide +kernel⟩, List.mem_of_getElem? (i := 936) (by decide +kernel), List.mem_of_getElem? (i := 1250) (by decide +kernel), List.mem_of_getElem? (i := 1251) (by decide +kernel)⟩
theorem lw_p62 : lw_okq (⟨"CardPaymentsModel", "isSigned", "(I)Z"⟩, 63) := ⟨⟨by decide +kernel, by decide +kernel⟩, List.mem_of_getElem? (i := 936) (by decide +kernel), List.mem_of_getElem? (i := 1254) (by decide +kernel), List.mem_of_getElem? (i := 1255) (by decide +kernel)⟩
theorem lw_p63 : lw_okq (⟨"CardPaymentsModel", "isAnswer", "(I)Z"⟩, 63) := ⟨⟨by decide +kernel, by decide +kernel⟩, List.mem_of_getElem? (i := 936) (by decide +kernel), List.mem_of_getElem? (i := 1258) (by decide +kernel), List.mem_of_getElem? (i := 1259) (by decide +kernel)⟩
def lw_privs_4 : List (MethodName × Nat) := [(⟨"CardPaymentsModel", "typePin", "(I)V"⟩, 63), (⟨"CardPaymentsModel", "answer", "(I)V"⟩, 63), (⟨"CardPaymentsModel", "finish", "(I)V"⟩, 63), (⟨"CardPaymentsModel", "isGood", "(IJJ)Z"⟩, 63), (⟨"CardPaymentsModel", "toTerminal", "(II)Z"⟩, 63), (⟨"CardPaymentsModel", "takeCard", "(I)V"⟩, 63), (⟨"CardPaymentsModel", "end", "(II)V"⟩, 63), (⟨"CardPaymentsModel", "toItsCard", "(III)V"⟩, 63), (⟨"CardPaymentsModel", "ask", "(I)V"⟩, 63), (⟨"CardPaymentsModel", "takeAnswer", "(I)V"⟩, 63), (⟨"CardPaymentsModel", "fill", "(IJJ)V"⟩, 63), (⟨"CardPaymentsModel", "sign", "(II)V"⟩, 63), (⟨"CardPaymentsModel", "takeWord", "(I)Z"⟩, 63), (⟨"CardPaymentsModel", "toHost", "(I)Z"⟩, 63), (⟨"CardPaymentsModel", "isSigned", "(I)Z"⟩, 63), (⟨"CardPaymentsModel", "isAnswer", "(I)Z"⟩, 63)]
theorem lw_r4 : ∀ q ∈ lw_privs_4, lw_okq q := List.forall_mem_cons.mpr ⟨lw_p48, List.forall_mem_cons.mpr ⟨lw_p49, List.forall_mem_cons.mpr ⟨lw_p50, List.forall_mem_cons.mpr ⟨lw_p51, List.forall_mem_cons.mpr ⟨lw_p52, List.forall_mem_cons.mpr ⟨lw_p53, List.forall_mem_cons.mpr ⟨lw_p54, List.forall_mem_cons.mpr ⟨lw_p55, List.forall_mem_cons.mpr ⟨lw_p56, List.forall_mem_cons.mpr ⟨lw_p57, List.forall_mem_cons.mpr ⟨lw_p58, List.forall_mem_cons.mpr ⟨lw_p59, List.forall_mem_cons.mpr ⟨lw_p60, List.forall_mem_cons.mpr ⟨lw_p61, List.forall_mem_cons.mpr ⟨lw_p62, List.forall_mem_cons.mpr ⟨lw_p63, fun _ h => absurd h List.not_mem_nil⟩⟩⟩⟩⟩⟩⟩⟩⟩⟩⟩⟩⟩⟩⟩⟩
theorem lw_p64 : lw_okq (⟨"CardPaymentsModel", "debit", "(I)V"⟩, 63) := ⟨⟨by decide +kernel, by decide +kernel⟩, List.mem_of_getElem? (i := 936) (by decide +kernel), List.mem_of_getElem? (i := 1262) (by decide +kernel), List.mem_of_getElem? (i := 1263) (by decide +kernel)⟩
theorem lw_p65 : lw_okq (⟨"CardPaymentsModel", "isThere", "(II)Z"⟩, 63) := ⟨⟨by decide +kernel, by decide +kernel⟩, List.mem_of_getElem? (i := 936) (by decide +kernel), List.mem_of_getElem? (i := 1309) (by decide +kernel), List.mem_of_getElem? (i := 1310) (by decide +kernel)⟩
def lw_privs_5 : List (MethodName × Nat) := [(⟨"CardPaymentsModel", "debit", "(I)V"⟩, 63), (⟨"CardPaymentsModel", "isThere", "(II)Z"⟩, 63)]
theorem lw_r5 : ∀ q ∈ lw_privs_5, lw_okq q := List.forall_mem_cons.mpr ⟨lw_p64, List.forall_mem_cons.mpr ⟨lw_p65, fun _ h => absurd h List.not_mem_nil⟩⟩
def lw_privs : List (MethodName × Nat) := lw_privs_1 ++ (lw_privs_2 ++ (lw_privs_3 ++ (lw_privs_4 ++ (lw_privs_5))))
def lw_tbl : List Cond := k2_sels lw_privs ++ tables_1
theorem lw_privs_ok : ∀ q ∈ lw_privs, lw_okq q := by
  show ∀ q ∈ lw_privs_1 ++ (lw_privs_2 ++ (lw_privs_3 ++ (lw_privs_4 ++ (lw_privs_5)))), lw_okq q
  exact List.forall_mem_append.mpr ⟨lw_r1, List.forall_mem_append.mpr ⟨lw_r2, List.forall_mem_append.mpr ⟨lw_r3, List.forall_mem_append.mpr ⟨lw_r4, lw_r5⟩⟩⟩⟩

def RX0 : String := "CardPayments$Account"
def TX0 : u_T := fun k => match k with
  | 0 => ("CardPayments$Account", "cents", "J", false)
  | _ => ("CardPayments$Account", "last", "I", false)
def tyX0 : Nat → FieldType := fun k => match k with
  | 0 => .long
  | _ => .int
abbrev wsX00 : List Cond := u_ws RX0 TX0 2
theorem nmX0 : ∀ a, a < 2 → ∀ b, b < 2 → a ≠ b → (TX0 a).2.1 ≠ (TX0 b).2.1 := by decide +kernel
theorem tyX0_ok : ∀ k, k < 2 → parseFieldDescriptor (TX0 k).2.2.1 = some (tyX0 k) := by decide +kernel
abbrev cX0_init : ByteArray := prog_2_method_1_code
def yX0_init : MethodName := ⟨RX0, "<init>", "(J)V"⟩
def RX1 : String := "CardPayments$Card"
def TX1 : u_T := fun k => match k with
  | 0 => ("CardPayments$Card", "world", "LCardPayments$World;", true)
  | 1 => ("CardPayments$Card", "number", "I", true)
  | 2 => ("CardPayments$Card", "pin", "I", true)
  | 3 => ("CardPayments$Card", "single", "J", true)
  | 4 => ("CardPayments$Card", "most", "I", true)
  | 5 => ("CardPayments$Card", "counter", "I", false)
  | 6 => ("CardPayments$Card", "tries", "I", false)
  | 7 => ("CardPayments$Card", "row", "I", false)
  | 8 => ("CardPayments$Card", "stage", "I", false)
  | 9 => ("CardPayments$Card", "writesToGo", "I", false)
  | 10 => ("CardPayments$Card", "way", "I", false)
  | _ => ("CardPayments$Card", "asked", "LCardPayments$Payment;", false)
def tyX1 : Nat → FieldType := fun k => match k with
  | 0 => .object "CardPayments$World"
  | 1 => .int
  | 2 => .int
  | 3 => .long
  | 4 => .int
  | 5 => .int
  | 6 => .int
  | 7 => .int
  | 8 => .int
  | 9 => .int
  | 10 => .int
  | _ => .object "CardPayments$Payment"
abbrev wsX10 : List Cond := u_ws RX1 TX1 12
theorem nmX1 : ∀ a, a < 12 → ∀ b, b < 12 → a ≠ b → (TX1 a).2.1 ≠ (TX1 b).2.1 := by decide +kernel
theorem tyX1_ok : ∀ k, k < 12 → parseFieldDescriptor (TX1 k).2.2.1 = some (tyX1 k) := by decide +kernel
abbrev cX1_init : ByteArray := prog_3_method_1_code
def yX1_init : MethodName := ⟨RX1, "<init>", "(LCardPayments$World;IIJI)V"⟩
abbrev cX1_takes : ByteArray := prog_3_method_2_code
def yX1_takes : MethodName := ⟨RX1, "takes", "(LCardPayments$Content;)Z"⟩
abbrev cX1_takesBegin : ByteArray := prog_3_method_3_code
def yX1_takesBegin : MethodName := ⟨RX1, "takesBegin", "(LCardPayments$Content;)Z"⟩
abbrev cX1_takesPin : ByteArray := prog_3_method_4_code
def yX1_takesPin : MethodName := ⟨RX1, "takesPin", "(LCardPayments$Content;)Z"⟩
abbrev cX1_replyPinned : ByteArray := prog_3_method_5_code
def yX1_replyPinned : MethodName := ⟨RX1, "replyPinned", "(LCardPayments$Content;II)V"⟩
abbrev cX1_takesAsk : ByteArray := prog_3_method_6_code
def yX1_takesAsk : MethodName := ⟨RX1, "takesAsk", "(LCardPayments$Content;)Z"⟩
abbrev cX1_answerTo : ByteArray := prog_3_method_7_code
def yX1_answerTo : MethodName := ⟨RX1, "answerTo", "(IJ)I"⟩
abbrev cX1_keepAsked : ByteArray := prog_3_method_8_code
def yX1_keepAsked : MethodName := ⟨RX1, "keepAsked", "(LCardPayments$Content;I)V"⟩
abbrev cX1_takesEnd : ByteArray := prog_3_method_9_code
def yX1_takesEnd : MethodName := ⟨RX1, "takesEnd", "(LCardPayments$Content;)Z"⟩
abbrev cX1_isApproved : ByteArray := prog_3_method_10_code
def yX1_isApproved : MethodName := ⟨RX1, "isApproved", "(LCardPayments$Content;)Z"⟩
abbrev cX1_reply : ByteArray := prog_3_method_11_code
def yX1_reply : MethodName := ⟨RX1, "reply", "(LCardPayments$Content;I)V"⟩
abbrev cX1_losesPower : ByteArray := prog_3_method_12_code
def yX1_losesPower : MethodName := ⟨RX1, "losesPower", "()Z"⟩
def RX2 : String := "CardPayments$Content"
def TX2 : u_T := fun k => match k with
  | 0 => ("CardPayments$Content", "kind", "I", false)
  | 1 => ("CardPayments$Content", "fromSort", "I", false)
  | 2 => ("CardPayments$Content", "from", "I", false)
  | _ => ("CardPayments$Content", "field", "[J", true)
def tyX2 : Nat → FieldType := fun k => match k with
  | 0 => .int
  | 1 => .int
  | 2 => .int
  | _ => .array .long
abbrev wsX20 : List Cond := u_ws RX2 TX2 4
theorem nmX2 : ∀ a, a < 4 → ∀ b, b < 4 → a ≠ b → (TX2 a).2.1 ≠ (TX2 b).2.1 := by decide +kernel
theorem tyX2_ok : ∀ k, k < 4 → parseFieldDescriptor (TX2 k).2.2.1 = some (tyX2 k) := by decide +kernel
abbrev cX2_init : ByteArray := prog_4_method_1_code
def yX2_init : MethodName := ⟨RX2, "<init>", "()V"⟩
abbrev cX2_intField : ByteArray := prog_4_method_2_code
def yX2_intField : MethodName := ⟨RX2, "intField", "(I)I"⟩
def RX3 : String := "CardPayments$Host"
def TX3 : u_T := fun k => match k with
  | 0 => ("CardPayments$Host", "world", "LCardPayments$World;", true)
  | 1 => ("CardPayments$Host", "accounts", "Ljava/util/ArrayList;", true)
  | _ => ("CardPayments$Host", "debits", "Ljava/util/ArrayList;", true)
def tyX3 : Nat → FieldType := fun k => match k with
  | 0 => .object "CardPayments$World"
  | 1 => .object "java/util/ArrayList"
  | _ => .object "java/util/ArrayList"
abbrev wsX30 : List Cond := u_ws RX3 TX3 3
theorem nmX3 : ∀ a, a < 3 → ∀ b, b < 3 → a ≠ b → (TX3 a).2.1 ≠ (TX3 b).2.1 := by decide +kernel
theorem tyX3_ok : ∀ k, k < 3 → parseFieldDescriptor (TX3 k).2.2.1 = some (tyX3 k) := by decide +kernel
abbrev cX3_init : ByteArray := prog_5_method_1_code
def yX3_init : MethodName := ⟨RX3, "<init>", "(LCardPayments$World;)V"⟩
abbrev cX3_takes : ByteArray := prog_5_method_2_code
def yX3_takes : MethodName := ⟨RX3, "takes", "(LCardPayments$Content;)Z"⟩
abbrev cX3_takesRequest : ByteArray := prog_5_method_3_code
def yX3_takesRequest : MethodName := ⟨RX3, "takesRequest", "(LCardPayments$Content;)Z"⟩
abbrev cX3_wordFor : ByteArray := prog_5_method_4_code
def yX3_wordFor : MethodName := ⟨RX3, "wordFor", "(LCardPayments$Payment;)I"⟩
abbrev cX3_takesClear : ByteArray := prog_5_method_5_code
def yX3_takesClear : MethodName := ⟨RX3, "takesClear", "(LCardPayments$Content;)Z"⟩
abbrev cX3_take : ByteArray := prog_5_method_6_code
def yX3_take : MethodName := ⟨RX3, "take", "(LCardPayments$Account;LCardPayments$Payment;)V"⟩
abbrev cX3_paymentOf : ByteArray := prog_5_method_7_code
def yX3_paymentOf : MethodName := ⟨RX3, "paymentOf", "(LCardPayments$Content;I)LCardPayments$Payment;"⟩
abbrev cX3_isFromTerminal : ByteArray := prog_5_method_8_code
def yX3_isFromTerminal : MethodName := ⟨RX3, "isFromTerminal", "(LCardPayments$Content;LCardPayments$Payment;)Z"⟩
abbrev cX3_isAnswerOfCard : ByteArray := prog_5_method_9_code
def yX3_isAnswerOfCard : MethodName := ⟨RX3, "isAnswerOfCard", "(LCardPayments$Payment;)Z"⟩
abbrev cX3_debitsOfCounter : ByteArray := prog_5_method_10_code
def yX3_debitsOfCounter : MethodName := ⟨RX3, "debitsOfCounter", "(LCardPayments$Payment;)I"⟩
def RX4 : String := "CardPayments$Message"
def TX4 : u_T := fun k => match k with
  | 0 => ("CardPayments$Message", "fromSort", "I", false)
  | 1 => ("CardPayments$Message", "from", "I", false)
  | 2 => ("CardPayments$Message", "toSort", "I", false)
  | 3 => ("CardPayments$Message", "to", "I", false)
  | 4 => ("CardPayments$Message", "size", "I", false)
  | _ => ("CardPayments$Message", "bytes", "[I", true)
def tyX4 : Nat → FieldType := fun k => match k with
  | 0 => .int
  | 1 => .int
  | 2 => .int
  | 3 => .int
  | 4 => .int
  | _ => .array .int
abbrev wsX40 : List Cond := u_ws RX4 TX4 6
theorem nmX4 : ∀ a, a < 6 → ∀ b, b < 6 → a ≠ b → (TX4 a).2.1 ≠ (TX4 b).2.1 := by decide +kernel
theorem tyX4_ok : ∀ k, k < 6 → parseFieldDescriptor (TX4 k).2.2.1 = some (tyX4 k) := by decide +kernel
abbrev cX4_init : ByteArray := prog_6_method_1_code
def yX4_init : MethodName := ⟨RX4, "<init>", "()V"⟩
abbrev cX4_has : ByteArray := prog_6_method_2_code
def yX4_has : MethodName := ⟨RX4, "has", "(I)Z"⟩
abbrev cX4_copyBytes : ByteArray := prog_6_method_3_code
def yX4_copyBytes : MethodName := ⟨RX4, "copyBytes", "([II)V"⟩
abbrev cX4_write : ByteArray := prog_6_method_4_code
def yX4_write : MethodName := ⟨RX4, "write", "(LCardPayments$Content;)V"⟩
abbrev cX4_writeField : ByteArray := prog_6_method_5_code
def yX4_writeField : MethodName := ⟨RX4, "writeField", "(IJ)V"⟩
abbrev cX4_read : ByteArray := prog_6_method_6_code
def yX4_read : MethodName := ⟨RX4, "read", "(LCardPayments$Content;)Z"⟩
abbrev cX4_isFieldAt : ByteArray := prog_6_method_7_code
def yX4_isFieldAt : MethodName := ⟨RX4, "isFieldAt", "(II)Z"⟩
abbrev cX4_numberAt : ByteArray := prog_6_method_8_code
def yX4_numberAt : MethodName := ⟨RX4, "numberAt", "(II)J"⟩
abbrev cX4_hasField : ByteArray := prog_6_method_9_code
def yX4_hasField : MethodName := ⟨RX4, "hasField", "(II)Z"⟩
def RX5 : String := "CardPayments$Payment"
def TX5 : u_T := fun k => match k with
  | 0 => ("CardPayments$Payment", "card", "I", false)
  | 1 => ("CardPayments$Payment", "counter", "I", false)
  | 2 => ("CardPayments$Payment", "amount", "J", false)
  | 3 => ("CardPayments$Payment", "un", "J", false)
  | 4 => ("CardPayments$Payment", "terminal", "I", false)
  | 5 => ("CardPayments$Payment", "way", "I", false)
  | 6 => ("CardPayments$Payment", "answer", "I", false)
  | _ => ("CardPayments$Payment", "seal", "J", false)
def tyX5 : Nat → FieldType := fun k => match k with
  | 0 => .int
  | 1 => .int
  | 2 => .long
  | 3 => .long
  | 4 => .int
  | 5 => .int
  | 6 => .int
  | _ => .long
abbrev wsX50 : List Cond := u_ws RX5 TX5 8
theorem nmX5 : ∀ a, a < 8 → ∀ b, b < 8 → a ≠ b → (TX5 a).2.1 ≠ (TX5 b).2.1 := by decide +kernel
theorem tyX5_ok : ∀ k, k < 8 → parseFieldDescriptor (TX5 k).2.2.1 = some (tyX5 k) := by decide +kernel
abbrev cX5_init : ByteArray := prog_7_method_1_code
def yX5_init : MethodName := ⟨RX5, "<init>", "()V"⟩
def RX6 : String := "CardPayments$Seal"
def TX6 : u_T := fun k => match k with
  | 0 => ("CardPayments$Seal", "sort", "I", true)
  | 1 => ("CardPayments$Seal", "number", "I", true)
  | _ => ("CardPayments$Seal", "row", "[J", true)
def tyX6 : Nat → FieldType := fun k => match k with
  | 0 => .int
  | 1 => .int
  | _ => .array .long
abbrev wsX60 : List Cond := u_ws RX6 TX6 3
theorem nmX6 : ∀ a, a < 3 → ∀ b, b < 3 → a ≠ b → (TX6 a).2.1 ≠ (TX6 b).2.1 := by decide +kernel
theorem tyX6_ok : ∀ k, k < 3 → parseFieldDescriptor (TX6 k).2.2.1 = some (tyX6 k) := by decide +kernel
abbrev cX6_init : ByteArray := prog_8_method_1_code
def yX6_init : MethodName := ⟨RX6, "<init>", "(II[J)V"⟩
def RX7 : String := "CardPayments$Seals"
def TX7 : u_T := fun k => match k with
  | 0 => ("CardPayments$Seals", "made", "Ljava/util/ArrayList;", true)
  | 1 => ("CardPayments$Seals", "row", "[J", true)
  | 2 => ("CardPayments$Seals", "size", "I", false)
  | 3 => ("CardPayments$Seals", "sort", "I", false)
  | _ => ("CardPayments$Seals", "number", "I", false)
def tyX7 : Nat → FieldType := fun k => match k with
  | 0 => .object "java/util/ArrayList"
  | 1 => .array .long
  | 2 => .int
  | 3 => .int
  | _ => .int
abbrev wsX70 : List Cond := u_ws RX7 TX7 5
theorem nmX7 : ∀ a, a < 5 → ∀ b, b < 5 → a ≠ b → (TX7 a).2.1 ≠ (TX7 b).2.1 := by decide +kernel
theorem tyX7_ok : ∀ k, k < 5 → parseFieldDescriptor (TX7 k).2.2.1 = some (tyX7 k) := by decide +kernel
abbrev cX7_init : ByteArray := prog_9_method_1_code
def yX7_init : MethodName := ⟨RX7, "<init>", "()V"⟩
abbrev cX7_ofCard : ByteArray := prog_9_method_2_code
def yX7_ofCard : MethodName := ⟨RX7, "ofCard", "(IIJ)LCardPayments$Seals;"⟩
abbrev cX7_ofAnswer : ByteArray := prog_9_method_3_code
def yX7_ofAnswer : MethodName := ⟨RX7, "ofAnswer", "(LCardPayments$Payment;)LCardPayments$Seals;"⟩
abbrev cX7_ofLast : ByteArray := prog_9_method_4_code
def yX7_ofLast : MethodName := ⟨RX7, "ofLast", "(LCardPayments$Payment;I)LCardPayments$Seals;"⟩
abbrev cX7_ofTerminal : ByteArray := prog_9_method_5_code
def yX7_ofTerminal : MethodName := ⟨RX7, "ofTerminal", "(ILCardPayments$Payment;)LCardPayments$Seals;"⟩
abbrev cX7_ofWordToCard : ByteArray := prog_9_method_6_code
def yX7_ofWordToCard : MethodName := ⟨RX7, "ofWordToCard", "(III)LCardPayments$Seals;"⟩
abbrev cX7_ofWordToTerminal : ByteArray := prog_9_method_7_code
def yX7_ofWordToTerminal : MethodName := ⟨RX7, "ofWordToTerminal", "(LCardPayments$Payment;I)LCardPayments$Seals;"⟩
abbrev cX7_seal : ByteArray := prog_9_method_8_code
def yX7_seal : MethodName := ⟨RX7, "seal", "()J"⟩
abbrev cX7_isGood : ByteArray := prog_9_method_9_code
def yX7_isGood : MethodName := ⟨RX7, "isGood", "(J)Z"⟩
abbrev cX7_key : ByteArray := prog_9_method_10_code
def yX7_key : MethodName := ⟨RX7, "key", "(II)LCardPayments$Seals;"⟩
abbrev cX7_with : ByteArray := prog_9_method_11_code
def yX7_with : MethodName := ⟨RX7, "with", "(J)LCardPayments$Seals;"⟩
abbrev cX7_isTheirs : ByteArray := prog_9_method_12_code
def yX7_isTheirs : MethodName := ⟨RX7, "isTheirs", "(LCardPayments$Seal;)Z"⟩
def RX8 : String := "CardPayments$Terminal"
def TX8 : u_T := fun k => match k with
  | 0 => ("CardPayments$Terminal", "world", "LCardPayments$World;", true)
  | 1 => ("CardPayments$Terminal", "number", "I", true)
  | 2 => ("CardPayments$Terminal", "floor", "J", true)
  | 3 => ("CardPayments$Terminal", "pinFrom", "J", true)
  | 4 => ("CardPayments$Terminal", "batch", "Ljava/util/ArrayList;", true)
  | 5 => ("CardPayments$Terminal", "outcome", "I", false)
  | 6 => ("CardPayments$Terminal", "draw", "J", false)
  | 7 => ("CardPayments$Terminal", "toldCard", "I", false)
  | 8 => ("CardPayments$Terminal", "typedPin", "I", false)
  | 9 => ("CardPayments$Terminal", "payment", "LCardPayments$Payment;", false)
  | 10 => ("CardPayments$Terminal", "keptCounter", "I", false)
  | 11 => ("CardPayments$Terminal", "word", "I", false)
  | 12 => ("CardPayments$Terminal", "waitsFor", "I", false)
  | _ => ("CardPayments$Terminal", "waited", "I", false)
def tyX8 : Nat → FieldType := fun k => match k with
  | 0 => .object "CardPayments$World"
  | 1 => .int
  | 2 => .long
  | 3 => .long
  | 4 => .object "java/util/ArrayList"
  | 5 => .int
  | 6 => .long
  | 7 => .int
  | 8 => .int
  | 9 => .object "CardPayments$Payment"
  | 10 => .int
  | 11 => .int
  | 12 => .int
  | _ => .int
abbrev wsX80 : List Cond := u_ws RX8 TX8 14
theorem nmX8 : ∀ a, a < 14 → ∀ b, b < 14 → a ≠ b → (TX8 a).2.1 ≠ (TX8 b).2.1 := by decide +kernel
theorem tyX8_ok : ∀ k, k < 14 → parseFieldDescriptor (TX8 k).2.2.1 = some (tyX8 k) := by decide +kernel
abbrev cX8_init : ByteArray := prog_10_method_1_code
def yX8_init : MethodName := ⟨RX8, "<init>", "(LCardPayments$World;IJJ)V"⟩
abbrev cX8_start : ByteArray := prog_10_method_2_code
def yX8_start : MethodName := ⟨RX8, "start", "(IJI)I"⟩
abbrev cX8_takes : ByteArray := prog_10_method_3_code
def yX8_takes : MethodName := ⟨RX8, "takes", "(LCardPayments$Content;)Z"⟩
abbrev cX8_takeCard : ByteArray := prog_10_method_4_code
def yX8_takeCard : MethodName := ⟨RX8, "takeCard", "(LCardPayments$Content;)V"⟩
abbrev cX8_takePinned : ByteArray := prog_10_method_5_code
def yX8_takePinned : MethodName := ⟨RX8, "takePinned", "(LCardPayments$Content;)V"⟩
abbrev cX8_ask : ByteArray := prog_10_method_6_code
def yX8_ask : MethodName := ⟨RX8, "ask", "(I)V"⟩
abbrev cX8_takeAnswer : ByteArray := prog_10_method_7_code
def yX8_takeAnswer : MethodName := ⟨RX8, "takeAnswer", "(LCardPayments$Content;)V"⟩
abbrev cX8_isGoodWithoutHost : ByteArray := prog_10_method_8_code
def yX8_isGoodWithoutHost : MethodName := ⟨RX8, "isGoodWithoutHost", "(LCardPayments$Content;)Z"⟩
abbrev cX8_takesWord : ByteArray := prog_10_method_9_code
def yX8_takesWord : MethodName := ⟨RX8, "takesWord", "(LCardPayments$Content;)Z"⟩
abbrev cX8_takeLast : ByteArray := prog_10_method_10_code
def yX8_takeLast : MethodName := ⟨RX8, "takeLast", "(LCardPayments$Content;)V"⟩
abbrev cX8_sendBatch : ByteArray := prog_10_method_11_code
def yX8_sendBatch : MethodName := ⟨RX8, "sendBatch", "()I"⟩
abbrev cX8_sendToHost : ByteArray := prog_10_method_12_code
def yX8_sendToHost : MethodName := ⟨RX8, "sendToHost", "(ILCardPayments$Payment;)Z"⟩
abbrev cX8_sendToCard : ByteArray := prog_10_method_13_code
def yX8_sendToCard : MethodName := ⟨RX8, "sendToCard", "(II)V"⟩
abbrev cX8_waitFor : ByteArray := prog_10_method_14_code
def yX8_waitFor : MethodName := ⟨RX8, "waitFor", "(I)V"⟩
abbrev cX8_end : ByteArray := prog_10_method_15_code
def yX8_end : MethodName := ⟨RX8, "end", "(I)V"⟩
abbrev cX8_givesUpAfter : ByteArray := prog_10_method_16_code
def yX8_givesUpAfter : MethodName := ⟨RX8, "givesUpAfter", "(I)Z"⟩
def RX9 : String := "CardPayments$Wires"
def TX9 : u_T := fun k => match k with
  | 0 => ("CardPayments$Wires", "waiting", "[LCardPayments$Message;", true)
  | _ => ("CardPayments$Wires", "size", "I", false)
def tyX9 : Nat → FieldType := fun k => match k with
  | 0 => .array (.object "CardPayments$Message")
  | _ => .int
abbrev wsX90 : List Cond := u_ws RX9 TX9 2
theorem nmX9 : ∀ a, a < 2 → ∀ b, b < 2 → a ≠ b → (TX9 a).2.1 ≠ (TX9 b).2.1 := by decide +kernel
theorem tyX9_ok : ∀ k, k < 2 → parseFieldDescriptor (TX9 k).2.2.1 = some (tyX9 k) := by decide +kernel
abbrev cX9_init : ByteArray := prog_11_method_1_code
def yX9_init : MethodName := ⟨RX9, "<init>", "()V"⟩
abbrev cX9_get : ByteArray := prog_11_method_2_code
def yX9_get : MethodName := ⟨RX9, "get", "(I)LCardPayments$Message;"⟩
abbrev cX9_add : ByteArray := prog_11_method_3_code
def yX9_add : MethodName := ⟨RX9, "add", "(IIII)LCardPayments$Message;"⟩
abbrev cX9_takeOff : ByteArray := prog_11_method_4_code
def yX9_takeOff : MethodName := ⟨RX9, "takeOff", "(I)LCardPayments$Message;"⟩
def RX10 : String := "CardPayments$World"
def TX10 : u_T := fun k => match k with
  | 0 => ("CardPayments$World", "wires", "LCardPayments$Wires;", true)
  | 1 => ("CardPayments$World", "seals", "LCardPayments$Seals;", true)
  | 2 => ("CardPayments$World", "cards", "Ljava/util/ArrayList;", true)
  | 3 => ("CardPayments$World", "terminals", "Ljava/util/ArrayList;", true)
  | 4 => ("CardPayments$World", "purchases", "Ljava/util/ArrayList;", true)
  | 5 => ("CardPayments$World", "answers", "Ljava/util/ArrayList;", true)
  | 6 => ("CardPayments$World", "came", "LCardPayments$Content;", true)
  | _ => ("CardPayments$World", "goes", "LCardPayments$Content;", true)
def tyX10 : Nat → FieldType := fun k => match k with
  | 0 => .object "CardPayments$Wires"
  | 1 => .object "CardPayments$Seals"
  | 2 => .object "java/util/ArrayList"
  | 3 => .object "java/util/ArrayList"
  | 4 => .object "java/util/ArrayList"
  | 5 => .object "java/util/ArrayList"
  | 6 => .object "CardPayments$Content"
  | _ => .object "CardPayments$Content"
abbrev wsX100 : List Cond := u_ws RX10 TX10 8
theorem nmX10 : ∀ a, a < 8 → ∀ b, b < 8 → a ≠ b → (TX10 a).2.1 ≠ (TX10 b).2.1 := by decide +kernel
theorem tyX10_ok : ∀ k, k < 8 → parseFieldDescriptor (TX10 k).2.2.1 = some (tyX10 k) := by decide +kernel
abbrev cX10_init : ByteArray := prog_12_method_1_code
def yX10_init : MethodName := ⟨RX10, "<init>", "()V"⟩
abbrev cX10_isCard : ByteArray := prog_12_method_2_code
def yX10_isCard : MethodName := ⟨RX10, "isCard", "(I)Z"⟩
abbrev cX10_isTerminal : ByteArray := prog_12_method_3_code
def yX10_isTerminal : MethodName := ⟨RX10, "isTerminal", "(I)Z"⟩
abbrev cX10_isSomebody : ByteArray := prog_12_method_4_code
def yX10_isSomebody : MethodName := ⟨RX10, "isSomebody", "(II)Z"⟩
abbrev cX10_send : ByteArray := prog_12_method_5_code
def yX10_send : MethodName := ⟨RX10, "send", "(IIIII)Z"⟩
abbrev cX10_purchasesLike : ByteArray := prog_12_method_6_code
def yX10_purchasesLike : MethodName := ⟨RX10, "purchasesLike", "(LCardPayments$Payment;)I"⟩
abbrev cX10_wasAnswered : ByteArray := prog_12_method_7_code
def yX10_wasAnswered : MethodName := ⟨RX10, "wasAnswered", "(LCardPayments$Payment;)Z"⟩
def RX11 : String := "CardPayments"
def TX11 : u_T := fun k => match k with
  | 0 => ("CardPayments", "world", "LCardPayments$World;", true)
  | 1 => ("CardPayments", "host", "LCardPayments$Host;", true)
  | 2 => ("CardPayments", "strangersRow", "[I", true)
  | _ => ("CardPayments", "strangersBytes", "I", false)
def tyX11 : Nat → FieldType := fun k => match k with
  | 0 => .object "CardPayments$World"
  | 1 => .object "CardPayments$Host"
  | 2 => .array .int
  | _ => .int
abbrev wsX110 : List Cond := u_ws RX11 TX11 4
theorem nmX11 : ∀ a, a < 4 → ∀ b, b < 4 → a ≠ b → (TX11 a).2.1 ≠ (TX11 b).2.1 := by decide +kernel
theorem tyX11_ok : ∀ k, k < 4 → parseFieldDescriptor (TX11 k).2.2.1 = some (tyX11 k) := by decide +kernel
abbrev cX11_init : ByteArray := prog_1_method_1_code
def yX11_init : MethodName := ⟨RX11, "<init>", "()V"⟩
abbrev cX11_card : ByteArray := prog_1_method_2_code
def yX11_card : MethodName := ⟨RX11, "card", "(IJIJ)I"⟩
abbrev cX11_terminal : ByteArray := prog_1_method_3_code
def yX11_terminal : MethodName := ⟨RX11, "terminal", "(JJ)I"⟩
abbrev cX11_purchase : ByteArray := prog_1_method_4_code
def yX11_purchase : MethodName := ⟨RX11, "purchase", "(IIJI)I"⟩
abbrev cX11_deliver : ByteArray := prog_1_method_5_code
def yX11_deliver : MethodName := ⟨RX11, "deliver", "(I)I"⟩
abbrev cX11_alter : ByteArray := prog_1_method_6_code
def yX11_alter : MethodName := ⟨RX11, "alter", "(III)Z"⟩
abbrev cX11_drop : ByteArray := prog_1_method_7_code
def yX11_drop : MethodName := ⟨RX11, "drop", "(I)Z"⟩
abbrev cX11_again : ByteArray := prog_1_method_8_code
def yX11_again : MethodName := ⟨RX11, "again", "(I)Z"⟩
abbrev cX11_put : ByteArray := prog_1_method_9_code
def yX11_put : MethodName := ⟨RX11, "put", "(I)I"⟩
abbrev cX11_inject : ByteArray := prog_1_method_10_code
def yX11_inject : MethodName := ⟨RX11, "inject", "(IIII)Z"⟩
abbrev cX11_power : ByteArray := prog_1_method_11_code
def yX11_power : MethodName := ⟨RX11, "power", "(II)Z"⟩
abbrev cX11_tick : ByteArray := prog_1_method_12_code
def yX11_tick : MethodName := ⟨RX11, "tick", "(I)I"⟩
abbrev cX11_clear : ByteArray := prog_1_method_13_code
def yX11_clear : MethodName := ⟨RX11, "clear", "(I)I"⟩
abbrev cX11_count : ByteArray := prog_1_method_14_code
def yX11_count : MethodName := ⟨RX11, "count", "(I)I"⟩
abbrev cX11_outcome : ByteArray := prog_1_method_15_code
def yX11_outcome : MethodName := ⟨RX11, "outcome", "(I)I"⟩
abbrev cX11_told : ByteArray := prog_1_method_16_code
def yX11_told : MethodName := ⟨RX11, "told", "(II)I"⟩
abbrev cX11_account : ByteArray := prog_1_method_17_code
def yX11_account : MethodName := ⟨RX11, "account", "(I)J"⟩
abbrev cX11_debit : ByteArray := prog_1_method_18_code
def yX11_debit : MethodName := ⟨RX11, "debit", "(II)J"⟩
abbrev cX11_message : ByteArray := prog_1_method_19_code
def yX11_message : MethodName := ⟨RX11, "message", "(II)I"⟩
abbrev cX11_at : ByteArray := prog_1_method_20_code
def yX11_at : MethodName := ⟨RX11, "at", "(II)I"⟩
abbrev cX11_matched : ByteArray := prog_1_method_21_code
def yX11_matched : MethodName := ⟨RX11, "matched", "()Z"⟩
abbrev cX11_isWithin : ByteArray := prog_1_method_22_code
def yX11_isWithin : MethodName := ⟨RX11, "isWithin", "(JJJ)Z"⟩
def RX12 : String := "CardPaymentsModel"
def TX12 : u_T := fun k => match k with
  | 0 => ("CardPaymentsModel", "seals", "I", false)
  | 1 => ("CardPaymentsModel", "sealKeys", "[I", true)
  | 2 => ("CardPaymentsModel", "sealSizes", "[I", true)
  | 3 => ("CardPaymentsModel", "sealNumbers", "[J", true)
  | 4 => ("CardPaymentsModel", "row", "[J", true)
  | 5 => ("CardPaymentsModel", "rowSize", "I", false)
  | 6 => ("CardPaymentsModel", "messages", "I", false)
  | 7 => ("CardPaymentsModel", "fromSort", "[I", true)
  | 8 => ("CardPaymentsModel", "fromNumber", "[I", true)
  | 9 => ("CardPaymentsModel", "toSort", "[I", true)
  | 10 => ("CardPaymentsModel", "toNumber", "[I", true)
  | 11 => ("CardPaymentsModel", "sizes", "[I", true)
  | 12 => ("CardPaymentsModel", "bytes", "[I", true)
  | 13 => ("CardPaymentsModel", "inFromSort", "I", false)
  | 14 => ("CardPaymentsModel", "inFromNumber", "I", false)
  | 15 => ("CardPaymentsModel", "in", "[I", true)
  | 16 => ("CardPaymentsModel", "inSize", "I", false)
  | 17 => ("CardPaymentsModel", "field", "[J", true)
  | 18 => ("CardPaymentsModel", "sends", "[J", true)
  | 19 => ("CardPaymentsModel", "strange", "[I", true)
  | 20 => ("CardPaymentsModel", "strangeSize", "I", false)
  | 21 => ("CardPaymentsModel", "cards", "I", false)
  | 22 => ("CardPaymentsModel", "pins", "[I", true)
  | 23 => ("CardPaymentsModel", "singles", "[J", true)
  | 24 => ("CardPaymentsModel", "mosts", "[I", true)
  | 25 => ("CardPaymentsModel", "accounts", "[J", true)
  | 26 => ("CardPaymentsModel", "lasts", "[I", true)
  | 27 => ("CardPaymentsModel", "counters", "[I", true)
  | 28 => ("CardPaymentsModel", "tries", "[I", true)
  | 29 => ("CardPaymentsModel", "rows", "[I", true)
  | 30 => ("CardPaymentsModel", "stages", "[I", true)
  | 31 => ("CardPaymentsModel", "ways", "[I", true)
  | 32 => ("CardPaymentsModel", "askedAmount", "[J", true)
  | 33 => ("CardPaymentsModel", "askedUn", "[J", true)
  | 34 => ("CardPaymentsModel", "askedTerminal", "[J", true)
  | 35 => ("CardPaymentsModel", "power", "[I", true)
  | 36 => ("CardPaymentsModel", "terminals", "I", false)
  | 37 => ("CardPaymentsModel", "floors", "[J", true)
  | 38 => ("CardPaymentsModel", "pinFroms", "[J", true)
  | 39 => ("CardPaymentsModel", "draws", "[J", true)
  | 40 => ("CardPaymentsModel", "outcomes", "[I", true)
  | 41 => ("CardPaymentsModel", "waits", "[I", true)
  | 42 => ("CardPaymentsModel", "sentAt", "[J", true)
  | 43 => ("CardPaymentsModel", "toCard", "[I", true)
  | 44 => ("CardPaymentsModel", "amounts", "[J", true)
  | 45 => ("CardPaymentsModel", "uns", "[J", true)
  | 46 => ("CardPaymentsModel", "typed", "[I", true)
  | 47 => ("CardPaymentsModel", "keptCard", "[I", true)
  | 48 => ("CardPaymentsModel", "keptCounter", "[I", true)
  | 49 => ("CardPaymentsModel", "ownWay", "[I", true)
  | 50 => ("CardPaymentsModel", "requestCounter", "[I", true)
  | 51 => ("CardPaymentsModel", "word", "[I", true)
  | 52 => ("CardPaymentsModel", "time", "J", false)
  | 53 => ("CardPaymentsModel", "batched", "I", false)
  | 54 => ("CardPaymentsModel", "batchOf", "[I", true)
  | 55 => ("CardPaymentsModel", "isSent", "[Z", true)
  | 56 => ("CardPaymentsModel", "batch", "[J", true)
  | 57 => ("CardPaymentsModel", "purchases", "I", false)
  | 58 => ("CardPaymentsModel", "bought", "[J", true)
  | 59 => ("CardPaymentsModel", "answers", "I", false)
  | 60 => ("CardPaymentsModel", "answered", "[J", true)
  | 61 => ("CardPaymentsModel", "debits", "I", false)
  | _ => ("CardPaymentsModel", "debited", "[J", true)
def tyX12 : Nat → FieldType := fun k => match k with
  | 0 => .int
  | 1 => .array .int
  | 2 => .array .int
  | 3 => .array .long
  | 4 => .array .long
  | 5 => .int
  | 6 => .int
  | 7 => .array .int
  | 8 => .array .int
  | 9 => .array .int
  | 10 => .array .int
  | 11 => .array .int
  | 12 => .array .int
  | 13 => .int
  | 14 => .int
  | 15 => .array .int
  | 16 => .int
  | 17 => .array .long
  | 18 => .array .long
  | 19 => .array .int
  | 20 => .int
  | 21 => .int
  | 22 => .array .int
  | 23 => .array .long
  | 24 => .array .int
  | 25 => .array .long
  | 26 => .array .int
  | 27 => .array .int
  | 28 => .array .int
  | 29 => .array .int
  | 30 => .array .int
  | 31 => .array .int
  | 32 => .array .long
  | 33 => .array .long
  | 34 => .array .long
  | 35 => .array .int
  | 36 => .int
  | 37 => .array .long
  | 38 => .array .long
  | 39 => .array .long
  | 40 => .array .int
  | 41 => .array .int
  | 42 => .array .long
  | 43 => .array .int
  | 44 => .array .long
  | 45 => .array .long
  | 46 => .array .int
  | 47 => .array .int
  | 48 => .array .int
  | 49 => .array .int
  | 50 => .array .int
  | 51 => .array .int
  | 52 => .long
  | 53 => .int
  | 54 => .array .int
  | 55 => .array .boolean
  | 56 => .array .long
  | 57 => .int
  | 58 => .array .long
  | 59 => .int
  | 60 => .array .long
  | 61 => .int
  | _ => .array .long
abbrev wsX120 : List Cond := u_ws RX12 TX12 63
theorem nmX12 : ∀ a, a < 63 → ∀ b, b < 63 → a ≠ b → (TX12 a).2.1 ≠ (TX12 b).2.1 := by decide +kernel
theorem tyX12_ok : ∀ k, k < 63 → parseFieldDescriptor (TX12 k).2.2.1 = some (tyX12 k) := by decide +kernel
abbrev cX12_init : ByteArray := prog_14_method_1_code
def yX12_init : MethodName := ⟨RX12, "<init>", "()V"⟩
abbrev cX12_isIn : ByteArray := prog_14_method_2_code
def yX12_isIn : MethodName := ⟨RX12, "isIn", "(JJJ)Z"⟩
abbrev cX12_begin : ByteArray := prog_14_method_3_code
def yX12_begin : MethodName := ⟨RX12, "begin", "(J)V"⟩
abbrev cX12_more : ByteArray := prog_14_method_4_code
def yX12_more : MethodName := ⟨RX12, "more", "(J)V"⟩
abbrev cX12_find : ByteArray := prog_14_method_5_code
def yX12_find : MethodName := ⟨RX12, "find", "(IJ)I"⟩
abbrev cX12_seal : ByteArray := prog_14_method_6_code
def yX12_seal : MethodName := ⟨RX12, "seal", "(IJ)I"⟩
abbrev cX12_isGood : ByteArray := prog_14_method_7_code
def yX12_isGood : MethodName := ⟨RX12, "isGood", "(IJJ)Z"⟩
abbrev cX12_lengthOf : ByteArray := prog_14_method_8_code
def yX12_lengthOf : MethodName := ⟨RX12, "lengthOf", "(I)I"⟩
abbrev cX12_has : ByteArray := prog_14_method_9_code
def yX12_has : MethodName := ⟨RX12, "has", "(II)Z"⟩
abbrev cX12_send : ByteArray := prog_14_method_10_code
def yX12_send : MethodName := ⟨RX12, "send", "(IIIII)Z"⟩
abbrev cX12_lie : ByteArray := prog_14_method_11_code
def yX12_lie : MethodName := ⟨RX12, "lie", "(IIIII)V"⟩
abbrev cX12_isMessage : ByteArray := prog_14_method_12_code
def yX12_isMessage : MethodName := ⟨RX12, "isMessage", "(I)Z"⟩
abbrev cX12_remove : ByteArray := prog_14_method_13_code
def yX12_remove : MethodName := ⟨RX12, "remove", "(I)V"⟩
abbrev cX12_read : ByteArray := prog_14_method_14_code
def yX12_read : MethodName := ⟨RX12, "read", "()I"⟩
abbrev cX12_deliver : ByteArray := prog_14_method_15_code
def yX12_deliver : MethodName := ⟨RX12, "deliver", "(I)I"⟩
abbrev cX12_writes : ByteArray := prog_14_method_16_code
def yX12_writes : MethodName := ⟨RX12, "writes", "(I)Z"⟩
abbrev cX12_reply : ByteArray := prog_14_method_17_code
def yX12_reply : MethodName := ⟨RX12, "reply", "(II)V"⟩
abbrev cX12_toCard : ByteArray := prog_14_method_18_code
def yX12_toCard : MethodName := ⟨RX12, "toCard", "(II)Z"⟩
abbrev cX12_typePin : ByteArray := prog_14_method_19_code
def yX12_typePin : MethodName := ⟨RX12, "typePin", "(I)V"⟩
abbrev cX12_answer : ByteArray := prog_14_method_20_code
def yX12_answer : MethodName := ⟨RX12, "answer", "(I)V"⟩
abbrev cX12_finish : ByteArray := prog_14_method_21_code
def yX12_finish : MethodName := ⟨RX12, "finish", "(I)V"⟩
abbrev cX12_end : ByteArray := prog_14_method_22_code
def yX12_end : MethodName := ⟨RX12, "end", "(II)V"⟩
abbrev cX12_toItsCard : ByteArray := prog_14_method_23_code
def yX12_toItsCard : MethodName := ⟨RX12, "toItsCard", "(III)V"⟩
abbrev cX12_ask : ByteArray := prog_14_method_24_code
def yX12_ask : MethodName := ⟨RX12, "ask", "(I)V"⟩
abbrev cX12_toTerminal : ByteArray := prog_14_method_25_code
def yX12_toTerminal : MethodName := ⟨RX12, "toTerminal", "(II)Z"⟩
abbrev cX12_takeCard : ByteArray := prog_14_method_26_code
def yX12_takeCard : MethodName := ⟨RX12, "takeCard", "(I)V"⟩
abbrev cX12_fill : ByteArray := prog_14_method_27_code
def yX12_fill : MethodName := ⟨RX12, "fill", "(IJJ)V"⟩
abbrev cX12_sign : ByteArray := prog_14_method_28_code
def yX12_sign : MethodName := ⟨RX12, "sign", "(II)V"⟩
abbrev cX12_takeAnswer : ByteArray := prog_14_method_29_code
def yX12_takeAnswer : MethodName := ⟨RX12, "takeAnswer", "(I)V"⟩
abbrev cX12_takeWord : ByteArray := prog_14_method_30_code
def yX12_takeWord : MethodName := ⟨RX12, "takeWord", "(I)Z"⟩
abbrev cX12_isSigned : ByteArray := prog_14_method_31_code
def yX12_isSigned : MethodName := ⟨RX12, "isSigned", "(I)Z"⟩
abbrev cX12_isAnswer : ByteArray := prog_14_method_32_code
def yX12_isAnswer : MethodName := ⟨RX12, "isAnswer", "(I)Z"⟩
abbrev cX12_debit : ByteArray := prog_14_method_33_code
def yX12_debit : MethodName := ⟨RX12, "debit", "(I)V"⟩
abbrev cX12_toHost : ByteArray := prog_14_method_34_code
def yX12_toHost : MethodName := ⟨RX12, "toHost", "(I)Z"⟩
abbrev cX12_card : ByteArray := prog_14_method_35_code
def yX12_card : MethodName := ⟨RX12, "card", "(IJIJ)I"⟩
abbrev cX12_terminal : ByteArray := prog_14_method_36_code
def yX12_terminal : MethodName := ⟨RX12, "terminal", "(JJ)I"⟩
abbrev cX12_purchase : ByteArray := prog_14_method_37_code
def yX12_purchase : MethodName := ⟨RX12, "purchase", "(IIJI)I"⟩
abbrev cX12_alter : ByteArray := prog_14_method_38_code
def yX12_alter : MethodName := ⟨RX12, "alter", "(III)Z"⟩
abbrev cX12_drop : ByteArray := prog_14_method_39_code
def yX12_drop : MethodName := ⟨RX12, "drop", "(I)Z"⟩
abbrev cX12_again : ByteArray := prog_14_method_40_code
def yX12_again : MethodName := ⟨RX12, "again", "(I)Z"⟩
abbrev cX12_put : ByteArray := prog_14_method_41_code
def yX12_put : MethodName := ⟨RX12, "put", "(I)I"⟩
abbrev cX12_isThere : ByteArray := prog_14_method_42_code
def yX12_isThere : MethodName := ⟨RX12, "isThere", "(II)Z"⟩
abbrev cX12_inject : ByteArray := prog_14_method_43_code
def yX12_inject : MethodName := ⟨RX12, "inject", "(IIII)Z"⟩
abbrev cX12_power : ByteArray := prog_14_method_44_code
def yX12_power : MethodName := ⟨RX12, "power", "(II)Z"⟩
abbrev cX12_tick : ByteArray := prog_14_method_45_code
def yX12_tick : MethodName := ⟨RX12, "tick", "(I)I"⟩
abbrev cX12_clear : ByteArray := prog_14_method_46_code
def yX12_clear : MethodName := ⟨RX12, "clear", "(I)I"⟩
abbrev cX12_count : ByteArray := prog_14_method_47_code
def yX12_count : MethodName := ⟨RX12, "count", "(I)I"⟩
abbrev cX12_outcome : ByteArray := prog_14_method_48_code
def yX12_outcome : MethodName := ⟨RX12, "outcome", "(I)I"⟩
abbrev cX12_told : ByteArray := prog_14_method_49_code
def yX12_told : MethodName := ⟨RX12, "told", "(II)I"⟩
abbrev cX12_account : ByteArray := prog_14_method_50_code
def yX12_account : MethodName := ⟨RX12, "account", "(I)J"⟩
abbrev cX12_debit_ : ByteArray := prog_14_method_51_code
def yX12_debit_ : MethodName := ⟨RX12, "debit", "(II)J"⟩
abbrev cX12_message : ByteArray := prog_14_method_52_code
def yX12_message : MethodName := ⟨RX12, "message", "(II)I"⟩
abbrev cX12_at : ByteArray := prog_14_method_53_code
def yX12_at : MethodName := ⟨RX12, "at", "(II)I"⟩
abbrev cX12_matched : ByteArray := prog_14_method_54_code
def yX12_matched : MethodName := ⟨RX12, "matched", "()Z"⟩
def RJx145de : String := "java/io/Serializable"
def TJx145de : u_T := fun k => match k with
  | _ => ("", "", "", false)
def tyJx145de : Nat → FieldType := fun k => match k with
  | _ => .int
abbrev wsJx145de0 : List Cond := u_ws RJx145de TJx145de 0
theorem nmJx145de : ∀ a, a < 0 → ∀ b, b < 0 → a ≠ b → (TJx145de a).2.1 ≠ (TJx145de b).2.1 := by decide +kernel
theorem tyJx145de_ok : ∀ k, k < 0 → parseFieldDescriptor (TJx145de k).2.2.1 = some (tyJx145de k) := by decide +kernel
def RJx8e188 : String := "java/lang/Cloneable"
def TJx8e188 : u_T := fun k => match k with
  | _ => ("", "", "", false)
def tyJx8e188 : Nat → FieldType := fun k => match k with
  | _ => .int
abbrev wsJx8e1880 : List Cond := u_ws RJx8e188 TJx8e188 0
theorem nmJx8e188 : ∀ a, a < 0 → ∀ b, b < 0 → a ≠ b → (TJx8e188 a).2.1 ≠ (TJx8e188 b).2.1 := by decide +kernel
theorem tyJx8e188_ok : ∀ k, k < 0 → parseFieldDescriptor (TJx8e188 k).2.2.1 = some (tyJx8e188 k) := by decide +kernel
def RJxab1ab : String := "java/lang/Iterable"
def TJxab1ab : u_T := fun k => match k with
  | _ => ("", "", "", false)
def tyJxab1ab : Nat → FieldType := fun k => match k with
  | _ => .int
abbrev wsJxab1ab0 : List Cond := u_ws RJxab1ab TJxab1ab 0
theorem nmJxab1ab : ∀ a, a < 0 → ∀ b, b < 0 → a ≠ b → (TJxab1ab a).2.1 ≠ (TJxab1ab b).2.1 := by decide +kernel
theorem tyJxab1ab_ok : ∀ k, k < 0 → parseFieldDescriptor (TJxab1ab k).2.2.1 = some (tyJxab1ab k) := by decide +kernel
def RJ9 : String := "java/lang/Math"
def TJ9 : u_T := fun k => match k with
  | _ => ("", "", "", false)
def tyJ9 : Nat → FieldType := fun k => match k with
  | _ => .int
abbrev wsJ90 : List Cond := u_ws RJ9 TJ9 0
theorem nmJ9 : ∀ a, a < 0 → ∀ b, b < 0 → a ≠ b → (TJ9 a).2.1 ≠ (TJ9 b).2.1 := by decide +kernel
theorem tyJ9_ok : ∀ k, k < 0 → parseFieldDescriptor (TJ9 k).2.2.1 = some (tyJ9 k) := by decide +kernel
abbrev cJ9_max_7cf53 : ByteArray := prog_18_method_65_code
def yJ9_max_7cf53 : MethodName := ⟨RJ9, "max", "(II)I"⟩
abbrev cJ9_min_7cf53 : ByteArray := prog_18_method_69_code
def yJ9_min_7cf53 : MethodName := ⟨RJ9, "min", "(II)I"⟩
def RJ10 : String := "java/lang/System"
def TJ10 : u_T := fun k => match k with
  | _ => ("", "", "", false)
def tyJ10 : Nat → FieldType := fun k => match k with
  | _ => .int
abbrev wsJ100 : List Cond := u_ws RJ10 TJ10 0
theorem nmJ10 : ∀ a, a < 0 → ∀ b, b < 0 → a ≠ b → (TJ10 a).2.1 ≠ (TJ10 b).2.1 := by decide +kernel
theorem tyJ10_ok : ∀ k, k < 0 → parseFieldDescriptor (TJ10 k).2.2.1 = some (tyJ10 k) := by decide +kernel
def RJxa1e45 : String := "java/util/AbstractCollection"
def TJxa1e45 : u_T := fun k => match k with
  | _ => ("", "", "", false)
def tyJxa1e45 : Nat → FieldType := fun k => match k with
  | _ => .int
abbrev wsJxa1e450 : List Cond := u_ws RJxa1e45 TJxa1e45 0
theorem nmJxa1e45 : ∀ a, a < 0 → ∀ b, b < 0 → a ≠ b → (TJxa1e45 a).2.1 ≠ (TJxa1e45 b).2.1 := by decide +kernel
theorem tyJxa1e45_ok : ∀ k, k < 0 → parseFieldDescriptor (TJxa1e45 k).2.2.1 = some (tyJxa1e45 k) := by decide +kernel
abbrev cJxa1e45_init_da8c8 : ByteArray := prog_20_method_1_code
def yJxa1e45_init_da8c8 : MethodName := ⟨RJxa1e45, "<init>", "()V"⟩
def RJxc12de : String := "java/util/AbstractList"
def TJxc12de : u_T := fun k => match k with
  | _ => ("", "", "", false)
def tyJxc12de : Nat → FieldType := fun k => match k with
  | _ => .int
abbrev wsJxc12de0 : List Cond := u_ws RJxc12de TJxc12de 0
theorem nmJxc12de : ∀ a, a < 0 → ∀ b, b < 0 → a ≠ b → (TJxc12de a).2.1 ≠ (TJxc12de b).2.1 := by decide +kernel
theorem tyJxc12de_ok : ∀ k, k < 0 → parseFieldDescriptor (TJxc12de k).2.2.1 = some (tyJxc12de k) := by decide +kernel
abbrev cJxc12de_init_da8c8 : ByteArray := prog_21_method_1_code
def yJxc12de_init_da8c8 : MethodName := ⟨RJxc12de, "<init>", "()V"⟩
def RJx4a65c : String := "java/util/ArrayList"
def TJx4a65c : u_T := fun k => match k with
  | 0 => ("java/util/AbstractList", "modCount", "I", false)
  | 1 => ("java/util/ArrayList", "elementData", "[Ljava/lang/Object;", false)
  | _ => ("java/util/ArrayList", "size", "I", false)
def tyJx4a65c : Nat → FieldType := fun k => match k with
  | 0 => .int
  | 1 => .array (.object "java/lang/Object")
  | _ => .int
abbrev wsJx4a65c0 : List Cond := u_ws RJx4a65c TJx4a65c 3
theorem nmJx4a65c : ∀ a, a < 3 → ∀ b, b < 3 → a ≠ b → (TJx4a65c a).2.1 ≠ (TJx4a65c b).2.1 := by decide +kernel
theorem tyJx4a65c_ok : ∀ k, k < 3 → parseFieldDescriptor (TJx4a65c k).2.2.1 = some (tyJx4a65c k) := by decide +kernel
abbrev cJx4a65c_init_da8c8 : ByteArray := prog_22_method_2_code
def yJx4a65c_init_da8c8 : MethodName := ⟨RJx4a65c, "<init>", "()V"⟩
abbrev cJx4a65c_grow_92f84 : ByteArray := prog_22_method_6_code
def yJx4a65c_grow_92f84 : MethodName := ⟨RJx4a65c, "grow", "(I)[Ljava/lang/Object;"⟩
abbrev cJx4a65c_grow_d5877 : ByteArray := prog_22_method_7_code
def yJx4a65c_grow_d5877 : MethodName := ⟨RJx4a65c, "grow", "()[Ljava/lang/Object;"⟩
abbrev cJx4a65c_size_8abf5 : ByteArray := prog_22_method_8_code
def yJx4a65c_size_8abf5 : MethodName := ⟨RJx4a65c, "size", "()I"⟩
abbrev cJx4a65c_elementData_915e3 : ByteArray := prog_22_method_18_code
def yJx4a65c_elementData_915e3 : MethodName := ⟨RJx4a65c, "elementData", "(I)Ljava/lang/Object;"⟩
abbrev cJx4a65c_get_915e3 : ByteArray := prog_22_method_20_code
def yJx4a65c_get_915e3 : MethodName := ⟨RJx4a65c, "get", "(I)Ljava/lang/Object;"⟩
abbrev cJx4a65c_add_72be8 : ByteArray := prog_22_method_24_code
def yJx4a65c_add_72be8 : MethodName := ⟨RJx4a65c, "add", "(Ljava/lang/Object;[Ljava/lang/Object;I)V"⟩
abbrev cJx4a65c_add_9ea2d : ByteArray := prog_22_method_25_code
def yJx4a65c_add_9ea2d : MethodName := ⟨RJx4a65c, "add", "(Ljava/lang/Object;)Z"⟩
abbrev cJx4a65c_clear_da8c8 : ByteArray := prog_22_method_40_code
def yJx4a65c_clear_da8c8 : MethodName := ⟨RJx4a65c, "clear", "()V"⟩
def RJ7 : String := "java/util/Arrays"
def TJ7 : u_T := fun k => match k with
  | _ => ("", "", "", false)
def tyJ7 : Nat → FieldType := fun k => match k with
  | _ => .int
abbrev wsJ70 : List Cond := u_ws RJ7 TJ7 0
theorem nmJ7 : ∀ a, a < 0 → ∀ b, b < 0 → a ≠ b → (TJ7 a).2.1 ≠ (TJ7 b).2.1 := by decide +kernel
theorem tyJ7_ok : ∀ k, k < 0 → parseFieldDescriptor (TJ7 k).2.2.1 = some (tyJ7 k) := by decide +kernel
abbrev cJ7_copyOf_1904c : ByteArray := prog_23_method_119_code
def yJ7_copyOf_1904c : MethodName := ⟨RJ7, "copyOf", "([Ljava/lang/Object;I)[Ljava/lang/Object;"⟩
abbrev cJ7_copyOf_6403c : ByteArray := prog_23_method_120_code
def yJ7_copyOf_6403c : MethodName := ⟨RJ7, "copyOf", "([Ljava/lang/Object;ILjava/lang/Class;)[Ljava/lang/Object;"⟩
abbrev cJ7_copyOf_c38d5 : ByteArray := prog_23_method_124_code
def yJ7_copyOf_c38d5 : MethodName := ⟨RJ7, "copyOf", "([JI)[J"⟩
def RJx5ef63 : String := "java/util/Collection"
def TJx5ef63 : u_T := fun k => match k with
  | _ => ("", "", "", false)
def tyJx5ef63 : Nat → FieldType := fun k => match k with
  | _ => .int
abbrev wsJx5ef630 : List Cond := u_ws RJx5ef63 TJx5ef63 0
theorem nmJx5ef63 : ∀ a, a < 0 → ∀ b, b < 0 → a ≠ b → (TJx5ef63 a).2.1 ≠ (TJx5ef63 b).2.1 := by decide +kernel
theorem tyJx5ef63_ok : ∀ k, k < 0 → parseFieldDescriptor (TJx5ef63 k).2.2.1 = some (tyJx5ef63 k) := by decide +kernel
def RJxbd725 : String := "java/util/List"
def TJxbd725 : u_T := fun k => match k with
  | _ => ("", "", "", false)
def tyJxbd725 : Nat → FieldType := fun k => match k with
  | _ => .int
abbrev wsJxbd7250 : List Cond := u_ws RJxbd725 TJxbd725 0
theorem nmJxbd725 : ∀ a, a < 0 → ∀ b, b < 0 → a ≠ b → (TJxbd725 a).2.1 ≠ (TJxbd725 b).2.1 := by decide +kernel
theorem tyJxbd725_ok : ∀ k, k < 0 → parseFieldDescriptor (TJxbd725 k).2.2.1 = some (tyJxbd725 k) := by decide +kernel
def RJ15 : String := "java/util/Objects"
def TJ15 : u_T := fun k => match k with
  | _ => ("", "", "", false)
def tyJ15 : Nat → FieldType := fun k => match k with
  | _ => .int
abbrev wsJ150 : List Cond := u_ws RJ15 TJ15 0
theorem nmJ15 : ∀ a, a < 0 → ∀ b, b < 0 → a ≠ b → (TJ15 a).2.1 ≠ (TJ15 b).2.1 := by decide +kernel
theorem tyJ15_ok : ∀ k, k < 0 → parseFieldDescriptor (TJ15 k).2.2.1 = some (tyJ15 k) := by decide +kernel
abbrev cJ15_checkIndex_7cf53 : ByteArray := prog_26_method_17_code
def yJ15_checkIndex_7cf53 : MethodName := ⟨RJ15, "checkIndex", "(II)I"⟩
def RJxf0a74 : String := "java/util/RandomAccess"
def TJxf0a74 : u_T := fun k => match k with
  | _ => ("", "", "", false)
def tyJxf0a74 : Nat → FieldType := fun k => match k with
  | _ => .int
abbrev wsJxf0a740 : List Cond := u_ws RJxf0a74 TJxf0a74 0
theorem nmJxf0a74 : ∀ a, a < 0 → ∀ b, b < 0 → a ≠ b → (TJxf0a74 a).2.1 ≠ (TJxf0a74 b).2.1 := by decide +kernel
theorem tyJxf0a74_ok : ∀ k, k < 0 → parseFieldDescriptor (TJxf0a74 k).2.2.1 = some (tyJxf0a74 k) := by decide +kernel
def RJxa66e6 : String := "java/util/SequencedCollection"
def TJxa66e6 : u_T := fun k => match k with
  | _ => ("", "", "", false)
def tyJxa66e6 : Nat → FieldType := fun k => match k with
  | _ => .int
abbrev wsJxa66e60 : List Cond := u_ws RJxa66e6 TJxa66e6 0
theorem nmJxa66e6 : ∀ a, a < 0 → ∀ b, b < 0 → a ≠ b → (TJxa66e6 a).2.1 ≠ (TJxa66e6 b).2.1 := by decide +kernel
theorem tyJxa66e6_ok : ∀ k, k < 0 → parseFieldDescriptor (TJxa66e6 k).2.2.1 = some (tyJxa66e6 k) := by decide +kernel
def RJ8 : String := "jdk/internal/util/ArraysSupport"
def TJ8 : u_T := fun k => match k with
  | _ => ("", "", "", false)
def tyJ8 : Nat → FieldType := fun k => match k with
  | _ => .int
abbrev wsJ80 : List Cond := u_ws RJ8 TJ8 0
theorem nmJ8 : ∀ a, a < 0 → ∀ b, b < 0 → a ≠ b → (TJ8 a).2.1 ≠ (TJ8 b).2.1 := by decide +kernel
theorem tyJ8_ok : ∀ k, k < 0 → parseFieldDescriptor (TJ8 k).2.2.1 = some (tyJ8 k) := by decide +kernel
abbrev cJ8_newLength_cabcc : ByteArray := prog_29_method_27_code
def yJ8_newLength_cabcc : MethodName := ⟨RJ8, "newLength", "(III)I"⟩
abbrev cJ8_hugeLength_7cf53 : ByteArray := prog_29_method_28_code
def yJ8_hugeLength_7cf53 : MethodName := ⟨RJ8, "hugeLength", "(II)I"⟩
def RJ3 : String := "jdk/internal/util/Preconditions"
def TJ3 : u_T := fun k => match k with
  | _ => ("", "", "", false)
def tyJ3 : Nat → FieldType := fun k => match k with
  | _ => .int
abbrev wsJ30 : List Cond := u_ws RJ3 TJ3 0
theorem nmJ3 : ∀ a, a < 0 → ∀ b, b < 0 → a ≠ b → (TJ3 a).2.1 ≠ (TJ3 b).2.1 := by decide +kernel
theorem tyJ3_ok : ∀ k, k < 0 → parseFieldDescriptor (TJ3 k).2.2.1 = some (tyJ3 k) := by decide +kernel
abbrev cJ3_checkIndex_8e157 : ByteArray := prog_30_method_11_code
def yJ3_checkIndex_8e157 : MethodName := ⟨RJ3, "checkIndex", "(IILjava/util/function/BiFunction;)I"⟩
def RL : String := "CardPaymentsLaw"
abbrev cL_law : ByteArray := code
def yL_law : MethodName := ⟨RL, "law", "([I)Z"⟩
abbrev vwCl : List vw_C := [(RJx4a65c, TJx4a65c, 3), (RX0, TX0, 2), (RX1, TX1, 12), (RX2, TX2, 4), (RX3, TX3, 3), (RX4, TX4, 6), (RX5, TX5, 8), (RX6, TX6, 3), (RX7, TX7, 5), (RX8, TX8, 14), (RX9, TX9, 2), (RX10, TX10, 8), (RX11, TX11, 4), (RX12, TX12, 63)]
