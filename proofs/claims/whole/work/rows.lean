section
-- ===== PART A: goes FIRST, ahead of the names: the tables' words, and 'selects' of the private methods out of them =====
/-- a private method of a class that the tables say can be made, by its rows of tables_1 -/
def lw_okq (q : MethodName × Nat) : Prop := (q.1.cls ≠ "java/lang/invoke/MethodHandle" ∧ q.1.cls ≠ "java/lang/invoke/VarHandle") ∧ Cond.instantiable q.1.cls q.2 ∈ tables_1 ∧ Cond.privateMethod q.1 ∈ tables_1 ∧ Cond.instanceMethod q.1 ∈ tables_1
theorem lw_p0 : lw_okq (⟨"DialDesk", "isDayToCome", "(I)Z"⟩, 5) := ⟨⟨by decide +kernel, by decide +kernel⟩, List.mem_of_getElem? (i := 17) (by decide +kernel), List.mem_of_getElem? (i := 196) (by decide +kernel), List.mem_of_getElem? (i := 197) (by decide +kernel)⟩
theorem lw_p1 : lw_okq (⟨"DialDesk", "canChange", "(LDialDesk$Entry;II)Z"⟩, 5) := ⟨⟨by decide +kernel, by decide +kernel⟩, List.mem_of_getElem? (i := 17) (by decide +kernel), List.mem_of_getElem? (i := 366) (by decide +kernel), List.mem_of_getElem? (i := 367) (by decide +kernel)⟩
theorem lw_p2 : lw_okq (⟨"DialDesk$Plan", "appendFrom", "(LDialDesk$Entry;LDialDesk$Entry;I)V"⟩, 5) := ⟨⟨by decide +kernel, by decide +kernel⟩, List.mem_of_getElem? (i := 25) (by decide +kernel), List.mem_of_getElem? (i := 379) (by decide +kernel), List.mem_of_getElem? (i := 380) (by decide +kernel)⟩
theorem lw_p3 : lw_okq (⟨"DialDesk$Plan", "noteInForce", "(I)V"⟩, 5) := ⟨⟨by decide +kernel, by decide +kernel⟩, List.mem_of_getElem? (i := 25) (by decide +kernel), List.mem_of_getElem? (i := 410) (by decide +kernel), List.mem_of_getElem? (i := 411) (by decide +kernel)⟩
theorem lw_p4 : lw_okq (⟨"DialDesk$Plan", "pairsOf", "(LDialDesk$Entry;)I"⟩, 5) := ⟨⟨by decide +kernel, by decide +kernel⟩, List.mem_of_getElem? (i := 25) (by decide +kernel), List.mem_of_getElem? (i := 418) (by decide +kernel), List.mem_of_getElem? (i := 419) (by decide +kernel)⟩
theorem lw_p5 : lw_okq (⟨"DialDesk$Plan", "partnerOf", "(LDialDesk$Entry;II)I"⟩, 5) := ⟨⟨by decide +kernel, by decide +kernel⟩, List.mem_of_getElem? (i := 25) (by decide +kernel), List.mem_of_getElem? (i := 436) (by decide +kernel), List.mem_of_getElem? (i := 437) (by decide +kernel)⟩
theorem lw_p6 : lw_okq (⟨"DialDesk$Entry", "nextFor", "(I)LDialDesk$Entry;"⟩, 18) := ⟨⟨by decide +kernel, by decide +kernel⟩, List.mem_of_getElem? (i := 216) (by decide +kernel), List.mem_of_getElem? (i := 470) (by decide +kernel), List.mem_of_getElem? (i := 471) (by decide +kernel)⟩
theorem lw_p7 : lw_okq (⟨"DialDesk", "callWith", "(I)LDialDesk$Call;"⟩, 5) := ⟨⟨by decide +kernel, by decide +kernel⟩, List.mem_of_getElem? (i := 17) (by decide +kernel), List.mem_of_getElem? (i := 566) (by decide +kernel), List.mem_of_getElem? (i := 567) (by decide +kernel)⟩
theorem lw_p8 : lw_okq (⟨"DialDesk", "tellOfLead", "(LDialDesk$Call;I)I"⟩, 5) := ⟨⟨by decide +kernel, by decide +kernel⟩, List.mem_of_getElem? (i := 17) (by decide +kernel), List.mem_of_getElem? (i := 622) (by decide +kernel), List.mem_of_getElem? (i := 623) (by decide +kernel)⟩
theorem lw_p9 : lw_okq (⟨"DialDesk", "tellOfRest", "(LDialDesk$Call;I)I"⟩, 5) := ⟨⟨by decide +kernel, by decide +kernel⟩, List.mem_of_getElem? (i := 17) (by decide +kernel), List.mem_of_getElem? (i := 649) (by decide +kernel), List.mem_of_getElem? (i := 650) (by decide +kernel)⟩
theorem lw_p10 : lw_okq (⟨"DialDesk$Supply", "noteLacks", "(LDialDesk$Demand;II)V"⟩, 7) := ⟨⟨by decide +kernel, by decide +kernel⟩, List.mem_of_getElem? (i := 123) (by decide +kernel), List.mem_of_getElem? (i := 754) (by decide +kernel), List.mem_of_getElem? (i := 755) (by decide +kernel)⟩
theorem lw_p11 : lw_okq (⟨"DialDesk$Supply", "nextTurnWithOptions", "(II)I"⟩, 7) := ⟨⟨by decide +kernel, by decide +kernel⟩, List.mem_of_getElem? (i := 123) (by decide +kernel), List.mem_of_getElem? (i := 758) (by decide +kernel), List.mem_of_getElem? (i := 759) (by decide +kernel)⟩
theorem lw_p12 : lw_okq (⟨"DialDesk$Supply", "usableFor", "(II)I"⟩, 7) := ⟨⟨by decide +kernel, by decide +kernel⟩, List.mem_of_getElem? (i := 123) (by decide +kernel), List.mem_of_getElem? (i := 769) (by decide +kernel), List.mem_of_getElem? (i := 770) (by decide +kernel)⟩
theorem lw_p13 : lw_okq (⟨"DialDesk$Supply", "costOf", "(I)I"⟩, 7) := ⟨⟨by decide +kernel, by decide +kernel⟩, List.mem_of_getElem? (i := 123) (by decide +kernel), List.mem_of_getElem? (i := 777) (by decide +kernel), List.mem_of_getElem? (i := 778) (by decide +kernel)⟩
theorem lw_p14 : lw_okq (⟨"DialDesk$Supply", "coversLacks", "(I)Z"⟩, 7) := ⟨⟨by decide +kernel, by decide +kernel⟩, List.mem_of_getElem? (i := 123) (by decide +kernel), List.mem_of_getElem? (i := 783) (by decide +kernel), List.mem_of_getElem? (i := 784) (by decide +kernel)⟩
theorem lw_p15 : lw_okq (⟨"DialDesk$Supply", "roomBy", "(II)J"⟩, 7) := ⟨⟨by decide +kernel, by decide +kernel⟩, List.mem_of_getElem? (i := 123) (by decide +kernel), List.mem_of_getElem? (i := 787) (by decide +kernel), List.mem_of_getElem? (i := 788) (by decide +kernel)⟩
def lw_privs_1 : List (MethodName × Nat) := [(⟨"DialDesk", "isDayToCome", "(I)Z"⟩, 5), (⟨"DialDesk", "canChange", "(LDialDesk$Entry;II)Z"⟩, 5), (⟨"DialDesk$Plan", "appendFrom", "(LDialDesk$Entry;LDialDesk$Entry;I)V"⟩, 5), (⟨"DialDesk$Plan", "noteInForce", "(I)V"⟩, 5), (⟨"DialDesk$Plan", "pairsOf", "(LDialDesk$Entry;)I"⟩, 5), (⟨"DialDesk$Plan", "partnerOf", "(LDialDesk$Entry;II)I"⟩, 5), (⟨"DialDesk$Entry", "nextFor", "(I)LDialDesk$Entry;"⟩, 18), (⟨"DialDesk", "callWith", "(I)LDialDesk$Call;"⟩, 5), (⟨"DialDesk", "tellOfLead", "(LDialDesk$Call;I)I"⟩, 5), (⟨"DialDesk", "tellOfRest", "(LDialDesk$Call;I)I"⟩, 5), (⟨"DialDesk$Supply", "noteLacks", "(LDialDesk$Demand;II)V"⟩, 7), (⟨"DialDesk$Supply", "nextTurnWithOptions", "(II)I"⟩, 7), (⟨"DialDesk$Supply", "usableFor", "(II)I"⟩, 7), (⟨"DialDesk$Supply", "costOf", "(I)I"⟩, 7), (⟨"DialDesk$Supply", "coversLacks", "(I)Z"⟩, 7), (⟨"DialDesk$Supply", "roomBy", "(II)J"⟩, 7)]
theorem lw_r1 : ∀ q ∈ lw_privs_1, lw_okq q := List.forall_mem_cons.mpr ⟨lw_p0, List.forall_mem_cons.mpr ⟨lw_p1, List.forall_mem_cons.mpr ⟨lw_p2, List.forall_mem_cons.mpr ⟨lw_p3, List.forall_mem_cons.mpr ⟨lw_p4, List.forall_mem_cons.mpr ⟨lw_p5, List.forall_mem_cons.mpr ⟨lw_p6, List.forall_mem_cons.mpr ⟨lw_p7, List.forall_mem_cons.mpr ⟨lw_p8, List.forall_mem_cons.mpr ⟨lw_p9, List.forall_mem_cons.mpr ⟨lw_p10, List.forall_mem_cons.mpr ⟨lw_p11, List.forall_mem_cons.mpr ⟨lw_p12, List.forall_mem_cons.mpr ⟨lw_p13, List.forall_mem_cons.mpr ⟨lw_p14, List.forall_mem_cons.mpr ⟨lw_p15, fun _ h => absurd h List.not_mem_nil⟩⟩⟩⟩⟩⟩⟩⟩⟩⟩⟩⟩⟩⟩⟩⟩
theorem lw_p16 : lw_okq (⟨"DialDesk$Supply", "isWithoutPair", "(I)Z"⟩, 7) := ⟨⟨by decide +kernel, by decide +kernel⟩, List.mem_of_getElem? (i := 123) (by decide +kernel), List.mem_of_getElem? (i := 792) (by decide +kernel), List.mem_of_getElem? (i := 793) (by decide +kernel)⟩
theorem lw_p17 : lw_okq (⟨"DialDeskModel", "mayBlock", "(IIIII)Z"⟩, 38) := ⟨⟨by decide +kernel, by decide +kernel⟩, List.mem_of_getElem? (i := 818) (by decide +kernel), List.mem_of_getElem? (i := 952) (by decide +kernel), List.mem_of_getElem? (i := 953) (by decide +kernel)⟩
theorem lw_p18 : lw_okq (⟨"DialDeskModel", "isFree", "(I)Z"⟩, 38) := ⟨⟨by decide +kernel, by decide +kernel⟩, List.mem_of_getElem? (i := 818) (by decide +kernel), List.mem_of_getElem? (i := 968) (by decide +kernel), List.mem_of_getElem? (i := 969) (by decide +kernel)⟩
theorem lw_p19 : lw_okq (⟨"DialDeskModel", "add", "(IIIIIIIII)I"⟩, 38) := ⟨⟨by decide +kernel, by decide +kernel⟩, List.mem_of_getElem? (i := 818) (by decide +kernel), List.mem_of_getElem? (i := 972) (by decide +kernel), List.mem_of_getElem? (i := 973) (by decide +kernel)⟩
theorem lw_p20 : lw_okq (⟨"DialDeskModel", "put", "(IIIIIIIII)I"⟩, 38) := ⟨⟨by decide +kernel, by decide +kernel⟩, List.mem_of_getElem? (i := 818) (by decide +kernel), List.mem_of_getElem? (i := 976) (by decide +kernel), List.mem_of_getElem? (i := 977) (by decide +kernel)⟩
theorem lw_p21 : lw_okq (⟨"DialDeskModel", "numbersOf", "(I)J"⟩, 38) := ⟨⟨by decide +kernel, by decide +kernel⟩, List.mem_of_getElem? (i := 818) (by decide +kernel), List.mem_of_getElem? (i := 980) (by decide +kernel), List.mem_of_getElem? (i := 981) (by decide +kernel)⟩
theorem lw_p22 : lw_okq (⟨"DialDeskModel", "isEntry", "(I)Z"⟩, 38) := ⟨⟨by decide +kernel, by decide +kernel⟩, List.mem_of_getElem? (i := 818) (by decide +kernel), List.mem_of_getElem? (i := 999) (by decide +kernel), List.mem_of_getElem? (i := 1000) (by decide +kernel)⟩
theorem lw_p23 : lw_okq (⟨"DialDeskModel", "mayEnd", "(II)Z"⟩, 38) := ⟨⟨by decide +kernel, by decide +kernel⟩, List.mem_of_getElem? (i := 818) (by decide +kernel), List.mem_of_getElem? (i := 1003) (by decide +kernel), List.mem_of_getElem? (i := 1004) (by decide +kernel)⟩
theorem lw_p24 : lw_okq (⟨"DialDeskModel", "mayChange", "(III)Z"⟩, 38) := ⟨⟨by decide +kernel, by decide +kernel⟩, List.mem_of_getElem? (i := 818) (by decide +kernel), List.mem_of_getElem? (i := 1011) (by decide +kernel), List.mem_of_getElem? (i := 1012) (by decide +kernel)⟩
theorem lw_p25 : lw_okq (⟨"DialDeskModel", "park", "(IIIIII)V"⟩, 38) := ⟨⟨by decide +kernel, by decide +kernel⟩, List.mem_of_getElem? (i := 818) (by decide +kernel), List.mem_of_getElem? (i := 1016) (by decide +kernel), List.mem_of_getElem? (i := 1017) (by decide +kernel)⟩
theorem lw_p26 : lw_okq (⟨"DialDeskModel", "isForce", "(II)Z"⟩, 38) := ⟨⟨by decide +kernel, by decide +kernel⟩, List.mem_of_getElem? (i := 818) (by decide +kernel), List.mem_of_getElem? (i := 1035) (by decide +kernel), List.mem_of_getElem? (i := 1036) (by decide +kernel)⟩
theorem lw_p27 : lw_okq (⟨"DialDeskModel", "isPair", "(II)Z"⟩, 38) := ⟨⟨by decide +kernel, by decide +kernel⟩, List.mem_of_getElem? (i := 818) (by decide +kernel), List.mem_of_getElem? (i := 1039) (by decide +kernel), List.mem_of_getElem? (i := 1040) (by decide +kernel)⟩
theorem lw_p28 : lw_okq (⟨"DialDeskModel", "begins", "(II)Z"⟩, 38) := ⟨⟨by decide +kernel, by decide +kernel⟩, List.mem_of_getElem? (i := 818) (by decide +kernel), List.mem_of_getElem? (i := 1043) (by decide +kernel), List.mem_of_getElem? (i := 1044) (by decide +kernel)⟩
theorem lw_p29 : lw_okq (⟨"DialDeskModel", "may", "(II)I"⟩, 38) := ⟨⟨by decide +kernel, by decide +kernel⟩, List.mem_of_getElem? (i := 818) (by decide +kernel), List.mem_of_getElem? (i := 1047) (by decide +kernel), List.mem_of_getElem? (i := 1048) (by decide +kernel)⟩
theorem lw_p30 : lw_okq (⟨"DialDeskModel", "lineOn", "(IJI)I"⟩, 38) := ⟨⟨by decide +kernel, by decide +kernel⟩, List.mem_of_getElem? (i := 818) (by decide +kernel), List.mem_of_getElem? (i := 1062) (by decide +kernel), List.mem_of_getElem? (i := 1063) (by decide +kernel)⟩
theorem lw_p31 : lw_okq (⟨"DialDeskModel", "blockOf", "(II)I"⟩, 38) := ⟨⟨by decide +kernel, by decide +kernel⟩, List.mem_of_getElem? (i := 818) (by decide +kernel), List.mem_of_getElem? (i := 1066) (by decide +kernel), List.mem_of_getElem? (i := 1067) (by decide +kernel)⟩
def lw_privs_2 : List (MethodName × Nat) := [(⟨"DialDesk$Supply", "isWithoutPair", "(I)Z"⟩, 7), (⟨"DialDeskModel", "mayBlock", "(IIIII)Z"⟩, 38), (⟨"DialDeskModel", "isFree", "(I)Z"⟩, 38), (⟨"DialDeskModel", "add", "(IIIIIIIII)I"⟩, 38), (⟨"DialDeskModel", "put", "(IIIIIIIII)I"⟩, 38), (⟨"DialDeskModel", "numbersOf", "(I)J"⟩, 38), (⟨"DialDeskModel", "isEntry", "(I)Z"⟩, 38), (⟨"DialDeskModel", "mayEnd", "(II)Z"⟩, 38), (⟨"DialDeskModel", "mayChange", "(III)Z"⟩, 38), (⟨"DialDeskModel", "park", "(IIIIII)V"⟩, 38), (⟨"DialDeskModel", "isForce", "(II)Z"⟩, 38), (⟨"DialDeskModel", "isPair", "(II)Z"⟩, 38), (⟨"DialDeskModel", "begins", "(II)Z"⟩, 38), (⟨"DialDeskModel", "may", "(II)I"⟩, 38), (⟨"DialDeskModel", "lineOn", "(IJI)I"⟩, 38), (⟨"DialDeskModel", "blockOf", "(II)I"⟩, 38)]
theorem lw_r2 : ∀ q ∈ lw_privs_2, lw_okq q := List.forall_mem_cons.mpr ⟨lw_p16, List.forall_mem_cons.mpr ⟨lw_p17, List.forall_mem_cons.mpr ⟨lw_p18, List.forall_mem_cons.mpr ⟨lw_p19, List.forall_mem_cons.mpr ⟨lw_p20, List.forall_mem_cons.mpr ⟨lw_p21, List.forall_mem_cons.mpr ⟨lw_p22, List.forall_mem_cons.mpr ⟨lw_p23, List.forall_mem_cons.mpr ⟨lw_p24, List.forall_mem_cons.mpr ⟨lw_p25, List.forall_mem_cons.mpr ⟨lw_p26, List.forall_mem_cons.mpr ⟨lw_p27, List.forall_mem_cons.mpr ⟨lw_p28, List.forall_mem_cons.mpr ⟨lw_p29, List.forall_mem_cons.mpr ⟨lw_p30, List.forall_mem_cons.mpr ⟨lw_p31, fun _ h => absurd h List.not_mem_nil⟩⟩⟩⟩⟩⟩⟩⟩⟩⟩⟩⟩⟩⟩⟩⟩
theorem lw_p32 : lw_okq (⟨"DialDeskModel", "follow", "(IJI)I"⟩, 38) := ⟨⟨by decide +kernel, by decide +kernel⟩, List.mem_of_getElem? (i := 818) (by decide +kernel), List.mem_of_getElem? (i := 1070) (by decide +kernel), List.mem_of_getElem? (i := 1071) (by decide +kernel)⟩
theorem lw_p33 : lw_okq (⟨"DialDeskModel", "isLine", "(I)Z"⟩, 38) := ⟨⟨by decide +kernel, by decide +kernel⟩, List.mem_of_getElem? (i := 818) (by decide +kernel), List.mem_of_getElem? (i := 1078) (by decide +kernel), List.mem_of_getElem? (i := 1079) (by decide +kernel)⟩
theorem lw_p34 : lw_okq (⟨"DialDeskModel", "carrierOf", "(II)I"⟩, 38) := ⟨⟨by decide +kernel, by decide +kernel⟩, List.mem_of_getElem? (i := 818) (by decide +kernel), List.mem_of_getElem? (i := 1086) (by decide +kernel), List.mem_of_getElem? (i := 1087) (by decide +kernel)⟩
theorem lw_p35 : lw_okq (⟨"DialDeskModel", "isCall", "(I)Z"⟩, 38) := ⟨⟨by decide +kernel, by decide +kernel⟩, List.mem_of_getElem? (i := 818) (by decide +kernel), List.mem_of_getElem? (i := 1106) (by decide +kernel), List.mem_of_getElem? (i := 1107) (by decide +kernel)⟩
theorem lw_p36 : lw_okq (⟨"DialDeskModel", "takeCall", "(I)V"⟩, 38) := ⟨⟨by decide +kernel, by decide +kernel⟩, List.mem_of_getElem? (i := 818) (by decide +kernel), List.mem_of_getElem? (i := 1115) (by decide +kernel), List.mem_of_getElem? (i := 1116) (by decide +kernel)⟩
theorem lw_p37 : lw_okq (⟨"DialDeskModel", "answer", "(I)I"⟩, 38) := ⟨⟨by decide +kernel, by decide +kernel⟩, List.mem_of_getElem? (i := 818) (by decide +kernel), List.mem_of_getElem? (i := 1119) (by decide +kernel), List.mem_of_getElem? (i := 1120) (by decide +kernel)⟩
theorem lw_p38 : lw_okq (⟨"DialDeskModel", "isNumber", "(I)Z"⟩, 38) := ⟨⟨by decide +kernel, by decide +kernel⟩, List.mem_of_getElem? (i := 818) (by decide +kernel), List.mem_of_getElem? (i := 1123) (by decide +kernel), List.mem_of_getElem? (i := 1124) (by decide +kernel)⟩
theorem lw_p39 : lw_okq (⟨"DialDeskModel", "isBegun", "(I)Z"⟩, 38) := ⟨⟨by decide +kernel, by decide +kernel⟩, List.mem_of_getElem? (i := 818) (by decide +kernel), List.mem_of_getElem? (i := 1127) (by decide +kernel), List.mem_of_getElem? (i := 1128) (by decide +kernel)⟩
theorem lw_p40 : lw_okq (⟨"DialDeskModel", "goesOn", "(I)Z"⟩, 38) := ⟨⟨by decide +kernel, by decide +kernel⟩, List.mem_of_getElem? (i := 818) (by decide +kernel), List.mem_of_getElem? (i := 1131) (by decide +kernel), List.mem_of_getElem? (i := 1132) (by decide +kernel)⟩
theorem lw_p41 : lw_okq (⟨"DialDeskModel", "leadsTo", "(I)I"⟩, 38) := ⟨⟨by decide +kernel, by decide +kernel⟩, List.mem_of_getElem? (i := 818) (by decide +kernel), List.mem_of_getElem? (i := 1143) (by decide +kernel), List.mem_of_getElem? (i := 1144) (by decide +kernel)⟩
theorem lw_p42 : lw_okq (⟨"DialDeskModel", "rank", "(I)I"⟩, 38) := ⟨⟨by decide +kernel, by decide +kernel⟩, List.mem_of_getElem? (i := 818) (by decide +kernel), List.mem_of_getElem? (i := 1147) (by decide +kernel), List.mem_of_getElem? (i := 1148) (by decide +kernel)⟩
theorem lw_p43 : lw_okq (⟨"DialDeskModel", "lineOf", "(II)I"⟩, 38) := ⟨⟨by decide +kernel, by decide +kernel⟩, List.mem_of_getElem? (i := 818) (by decide +kernel), List.mem_of_getElem? (i := 1151) (by decide +kernel), List.mem_of_getElem? (i := 1152) (by decide +kernel)⟩
theorem lw_p44 : lw_okq (⟨"DialDeskModel", "behind", "(I)I"⟩, 38) := ⟨⟨by decide +kernel, by decide +kernel⟩, List.mem_of_getElem? (i := 818) (by decide +kernel), List.mem_of_getElem? (i := 1155) (by decide +kernel), List.mem_of_getElem? (i := 1156) (by decide +kernel)⟩
theorem lw_p45 : lw_okq (⟨"DialDeskModel", "toCome", "(IZ)I"⟩, 38) := ⟨⟨by decide +kernel, by decide +kernel⟩, List.mem_of_getElem? (i := 818) (by decide +kernel), List.mem_of_getElem? (i := 1159) (by decide +kernel), List.mem_of_getElem? (i := 1160) (by decide +kernel)⟩
theorem lw_p46 : lw_okq (⟨"DialDeskModel", "takeNumber", "(J)V"⟩, 38) := ⟨⟨by decide +kernel, by decide +kernel⟩, List.mem_of_getElem? (i := 818) (by decide +kernel), List.mem_of_getElem? (i := 1167) (by decide +kernel), List.mem_of_getElem? (i := 1168) (by decide +kernel)⟩
theorem lw_p47 : lw_okq (⟨"DialDeskModel", "roomAt", "(II)J"⟩, 38) := ⟨⟨by decide +kernel, by decide +kernel⟩, List.mem_of_getElem? (i := 818) (by decide +kernel), List.mem_of_getElem? (i := 1181) (by decide +kernel), List.mem_of_getElem? (i := 1182) (by decide +kernel)⟩
def lw_privs_3 : List (MethodName × Nat) := [(⟨"DialDeskModel", "follow", "(IJI)I"⟩, 38), (⟨"DialDeskModel", "isLine", "(I)Z"⟩, 38), (⟨"DialDeskModel", "carrierOf", "(II)I"⟩, 38), (⟨"DialDeskModel", "isCall", "(I)Z"⟩, 38), (⟨"DialDeskModel", "takeCall", "(I)V"⟩, 38), (⟨"DialDeskModel", "answer", "(I)I"⟩, 38), (⟨"DialDeskModel", "isNumber", "(I)Z"⟩, 38), (⟨"DialDeskModel", "isBegun", "(I)Z"⟩, 38), (⟨"DialDeskModel", "goesOn", "(I)Z"⟩, 38), (⟨"DialDeskModel", "leadsTo", "(I)I"⟩, 38), (⟨"DialDeskModel", "rank", "(I)I"⟩, 38), (⟨"DialDeskModel", "lineOf", "(II)I"⟩, 38), (⟨"DialDeskModel", "behind", "(I)I"⟩, 38), (⟨"DialDeskModel", "toCome", "(IZ)I"⟩, 38), (⟨"DialDeskModel", "takeNumber", "(J)V"⟩, 38), (⟨"DialDeskModel", "roomAt", "(II)J"⟩, 38)]
theorem lw_r3 : ∀ q ∈ lw_privs_3, lw_okq q := List.forall_mem_cons.mpr ⟨lw_p32, List.forall_mem_cons.mpr ⟨lw_p33, List.forall_mem_cons.mpr ⟨lw_p34, List.forall_mem_cons.mpr ⟨lw_p35, List.forall_mem_cons.mpr ⟨lw_p36, List.forall_mem_cons.mpr ⟨lw_p37, List.forall_mem_cons.mpr ⟨lw_p38, List.forall_mem_cons.mpr ⟨lw_p39, List.forall_mem_cons.mpr ⟨lw_p40, List.forall_mem_cons.mpr ⟨lw_p41, List.forall_mem_cons.mpr ⟨lw_p42, List.forall_mem_cons.mpr ⟨lw_p43, List.forall_mem_cons.mpr ⟨lw_p44, List.forall_mem_cons.mpr ⟨lw_p45, List.forall_mem_cons.mpr ⟨lw_p46, List.forall_mem_cons.mpr ⟨lw_p47, fun _ h => absurd h List.not_mem_nil⟩⟩⟩⟩⟩⟩⟩⟩⟩⟩⟩⟩⟩⟩⟩⟩
theorem lw_p48 : lw_okq (⟨"DialDeskModel", "makeBase", "(I)V"⟩, 38) := ⟨⟨by decide +kernel, by decide +kernel⟩, List.mem_of_getElem? (i := 818) (by decide +kernel), List.mem_of_getElem? (i := 1190) (by decide +kernel), List.mem_of_getElem? (i := 1191) (by decide +kernel)⟩
theorem lw_p49 : lw_okq (⟨"DialDeskModel", "shortageWith", "(II)I"⟩, 38) := ⟨⟨by decide +kernel, by decide +kernel⟩, List.mem_of_getElem? (i := 818) (by decide +kernel), List.mem_of_getElem? (i := 1194) (by decide +kernel), List.mem_of_getElem? (i := 1195) (by decide +kernel)⟩
theorem lw_p50 : lw_okq (⟨"DialDeskModel", "mayAll", "(I)Z"⟩, 38) := ⟨⟨by decide +kernel, by decide +kernel⟩, List.mem_of_getElem? (i := 818) (by decide +kernel), List.mem_of_getElem? (i := 1207) (by decide +kernel), List.mem_of_getElem? (i := 1208) (by decide +kernel)⟩
def lw_privs_4 : List (MethodName × Nat) := [(⟨"DialDeskModel", "makeBase", "(I)V"⟩, 38), (⟨"DialDeskModel", "shortageWith", "(II)I"⟩, 38), (⟨"DialDeskModel", "mayAll", "(I)Z"⟩, 38)]
theorem lw_r4 : ∀ q ∈ lw_privs_4, lw_okq q := List.forall_mem_cons.mpr ⟨lw_p48, List.forall_mem_cons.mpr ⟨lw_p49, List.forall_mem_cons.mpr ⟨lw_p50, fun _ h => absurd h List.not_mem_nil⟩⟩⟩
def lw_privs : List (MethodName × Nat) := lw_privs_1 ++ (lw_privs_2 ++ (lw_privs_3 ++ (lw_privs_4)))
def lw_tbl : List Cond := k2_sels lw_privs ++ tables_1
theorem lw_privs_ok : ∀ q ∈ lw_privs, lw_okq q := by
  show ∀ q ∈ lw_privs_1 ++ (lw_privs_2 ++ (lw_privs_3 ++ (lw_privs_4))), lw_okq q
  exact List.forall_mem_append.mpr ⟨lw_r1, List.forall_mem_append.mpr ⟨lw_r2, List.forall_mem_append.mpr ⟨lw_r3, lw_r4⟩⟩⟩
def RX0 : String := "DialDesk$Call"
def TX0 : u_T := fun k => match k with
  | 0 => ("DialDesk$Call", "begun", "Z", false)
  | 1 => ("DialDesk$Call", "over", "Z", false)
  | 2 => ("DialDesk$Call", "day", "I", false)
  | 3 => ("DialDesk$Call", "answer", "I", false)
  | 4 => ("DialDesk$Call", "places", "I", false)
  | _ => ("DialDesk$Call", "figures", "J", false)
def tyX0 : Nat → FieldType := fun k => match k with
  | 0 => .boolean
  | 1 => .boolean
  | 2 => .int
  | 3 => .int
  | 4 => .int
  | _ => .long
theorem nmX0 : ∀ a, a < 6 → ∀ b, b < 6 → a ≠ b → (TX0 a).2.1 ≠ (TX0 b).2.1 := by decide +kernel
theorem tyX0_ok : ∀ k, k < 6 → parseFieldDescriptor (TX0 k).2.2.1 = some (tyX0 k) := by decide +kernel
abbrev cX0_init : ByteArray := prog_2_method_1_code
def yX0_init : MethodName := ⟨RX0, "<init>", "()V"⟩
abbrev cX0_begin : ByteArray := prog_2_method_2_code
def yX0_begin : MethodName := ⟨RX0, "begin", "(I)V"⟩
abbrev cX0_isOpen : ByteArray := prog_2_method_3_code
def yX0_isOpen : MethodName := ⟨RX0, "isOpen", "()Z"⟩
abbrev cX0_hear : ByteArray := prog_2_method_4_code
def yX0_hear : MethodName := ⟨RX0, "hear", "(I)V"⟩
def RX1 : String := "DialDesk$Demand"
def TX1 : u_T := fun k => match k with
  | 0 => ("DialDesk$Demand", "area", "I", true)
  | 1 => ("DialDesk$Demand", "first", "I", false)
  | _ => ("DialDesk$Demand", "more", "I", false)
def tyX1 : Nat → FieldType := fun k => match k with
  | 0 => .int
  | 1 => .int
  | _ => .int
theorem nmX1 : ∀ a, a < 3 → ∀ b, b < 3 → a ≠ b → (TX1 a).2.1 ≠ (TX1 b).2.1 := by decide +kernel
theorem tyX1_ok : ∀ k, k < 3 → parseFieldDescriptor (TX1 k).2.2.1 = some (tyX1 k) := by decide +kernel
abbrev cX1_init : ByteArray := prog_3_method_1_code
def yX1_init : MethodName := ⟨RX1, "<init>", "(I)V"⟩
abbrev cX1_askedIn : ByteArray := prog_3_method_2_code
def yX1_askedIn : MethodName := ⟨RX1, "askedIn", "(I)J"⟩
abbrev cX1_firstAbove : ByteArray := prog_3_method_3_code
def yX1_firstAbove : MethodName := ⟨RX1, "firstAbove", "(JI)I"⟩
def RX2 : String := "DialDesk$Entry"
def TX2 : u_T := fun k => match k with
  | 0 => ("DialDesk$Entry", "kind", "I", true)
  | 1 => ("DialDesk$Entry", "belongs", "I", true)
  | 2 => ("DialDesk$Entry", "prefix", "I", true)
  | 3 => ("DialDesk$Entry", "places", "I", true)
  | 4 => ("DialDesk$Entry", "set", "I", true)
  | 5 => ("DialDesk$Entry", "least", "I", true)
  | 6 => ("DialDesk$Entry", "most", "I", true)
  | 7 => ("DialDesk$Entry", "first", "I", true)
  | 8 => ("DialDesk$Entry", "fixed", "[I", true)
  | 9 => ("DialDesk$Entry", "id", "I", false)
  | 10 => ("DialDesk$Entry", "end", "I", false)
  | 11 => ("DialDesk$Entry", "from", "I", false)
  | 12 => ("DialDesk$Entry", "changeDay", "I", false)
  | 13 => ("DialDesk$Entry", "moved", "LDialDesk$Entry;", false)
  | 14 => ("DialDesk$Entry", "rest", "LDialDesk$Entry;", false)
  | 15 => ("DialDesk$Entry", "standsFor", "LDialDesk$Entry;", false)
  | 16 => ("DialDesk$Entry", "lowClashes", "J", false)
  | _ => ("DialDesk$Entry", "highClashes", "J", false)
def tyX2 : Nat → FieldType := fun k => match k with
  | 0 => .int
  | 1 => .int
  | 2 => .int
  | 3 => .int
  | 4 => .int
  | 5 => .int
  | 6 => .int
  | 7 => .int
  | 8 => .array .int
  | 9 => .int
  | 10 => .int
  | 11 => .int
  | 12 => .int
  | 13 => .object "DialDesk$Entry"
  | 14 => .object "DialDesk$Entry"
  | 15 => .object "DialDesk$Entry"
  | 16 => .long
  | _ => .long
theorem nmX2 : ∀ a, a < 18 → ∀ b, b < 18 → a ≠ b → (TX2 a).2.1 ≠ (TX2 b).2.1 := by decide +kernel
theorem tyX2_ok : ∀ k, k < 18 → parseFieldDescriptor (TX2 k).2.2.1 = some (tyX2 k) := by decide +kernel
abbrev cX2_init : ByteArray := prog_4_method_1_code
def yX2_init : MethodName := ⟨RX2, "<init>", "(IIIIIII)V"⟩
abbrev cX2_tell : ByteArray := prog_4_method_2_code
def yX2_tell : MethodName := ⟨RX2, "tell", "(I)I"⟩
abbrev cX2_isInForce : ByteArray := prog_4_method_3_code
def yX2_isInForce : MethodName := ⟨RX2, "isInForce", "(I)Z"⟩
abbrev cX2_isInside : ByteArray := prog_4_method_4_code
def yX2_isInside : MethodName := ⟨RX2, "isInside", "(I)Z"⟩
abbrev cX2_placesBehind : ByteArray := prog_4_method_5_code
def yX2_placesBehind : MethodName := ⟨RX2, "placesBehind", "()I"⟩
abbrev cX2_figuresAt : ByteArray := prog_4_method_6_code
def yX2_figuresAt : MethodName := ⟨RX2, "figuresAt", "(I)I"⟩
abbrev cX2_fits : ByteArray := prog_4_method_7_code
def yX2_fits : MethodName := ⟨RX2, "fits", "(JI)Z"⟩
abbrev cX2_hasNumber : ByteArray := prog_4_method_8_code
def yX2_hasNumber : MethodName := ⟨RX2, "hasNumber", "(JI)Z"⟩
abbrev cX2_hasBehind : ByteArray := prog_4_method_9_code
def yX2_hasBehind : MethodName := ⟨RX2, "hasBehind", "(I)Z"⟩
abbrev cX2_numberWith : ByteArray := prog_4_method_10_code
def yX2_numberWith : MethodName := ⟨RX2, "numberWith", "(I)J"⟩
abbrev cX2_clashesWith : ByteArray := prog_4_method_11_code
def yX2_clashesWith : MethodName := ⟨RX2, "clashesWith", "(LDialDesk$Entry;)Z"⟩
abbrev cX2_noteClash : ByteArray := prog_4_method_12_code
def yX2_noteClash : MethodName := ⟨RX2, "noteClash", "(I)V"⟩
abbrev cX2_hasClash : ByteArray := prog_4_method_13_code
def yX2_hasClash : MethodName := ⟨RX2, "hasClash", "(I)Z"⟩
abbrev cX2_followedTo : ByteArray := prog_4_method_14_code
def yX2_followedTo : MethodName := ⟨RX2, "followedTo", "(II)LDialDesk$Entry;"⟩
abbrev cX2_nextFor : ByteArray := prog_4_method_15_code
def yX2_nextFor : MethodName := ⟨RX2, "nextFor", "(I)LDialDesk$Entry;"⟩
abbrev cX2_roomOn : ByteArray := prog_4_method_16_code
def yX2_roomOn : MethodName := ⟨RX2, "roomOn", "(I)J"⟩
def RX3 : String := "DialDesk$Line"
def TX3 : u_T := fun k => match k with
  | 0 => ("DialDesk$Line", "start", "LDialDesk$Entry;", true)
  | 1 => ("DialDesk$Line", "figures", "I", true)
  | 2 => ("DialDesk$Line", "head", "I", true)
  | 3 => ("DialDesk$Line", "first", "I", true)
  | 4 => ("DialDesk$Line", "end", "I", false)
  | _ => ("DialDesk$Line", "latest", "LDialDesk$Porting;", false)
def tyX3 : Nat → FieldType := fun k => match k with
  | 0 => .object "DialDesk$Entry"
  | 1 => .int
  | 2 => .int
  | 3 => .int
  | 4 => .int
  | _ => .object "DialDesk$Porting"
theorem nmX3 : ∀ a, a < 6 → ∀ b, b < 6 → a ≠ b → (TX3 a).2.1 ≠ (TX3 b).2.1 := by decide +kernel
theorem tyX3_ok : ∀ k, k < 6 → parseFieldDescriptor (TX3 k).2.2.1 = some (tyX3 k) := by decide +kernel
abbrev cX3_init : ByteArray := prog_5_method_1_code
def yX3_init : MethodName := ⟨RX3, "<init>", "(LDialDesk$Entry;II)V"⟩
abbrev cX3_blockOn : ByteArray := prog_5_method_2_code
def yX3_blockOn : MethodName := ⟨RX3, "blockOn", "(I)LDialDesk$Entry;"⟩
abbrev cX3_carrierOn : ByteArray := prog_5_method_3_code
def yX3_carrierOn : MethodName := ⟨RX3, "carrierOn", "(I)I"⟩
def RX4 : String := "DialDesk$Lines"
def TX4 : u_T := fun k => match k with
  | 0 => ("DialDesk$Lines", "rows", "[LDialDesk$Line;", true)
  | 1 => ("DialDesk$Lines", "size", "I", false)
  | _ => ("DialDesk$Lines", "portings", "I", false)
def tyX4 : Nat → FieldType := fun k => match k with
  | 0 => .array (.object "DialDesk$Line")
  | 1 => .int
  | _ => .int
theorem nmX4 : ∀ a, a < 3 → ∀ b, b < 3 → a ≠ b → (TX4 a).2.1 ≠ (TX4 b).2.1 := by decide +kernel
theorem tyX4_ok : ∀ k, k < 3 → parseFieldDescriptor (TX4 k).2.2.1 = some (tyX4 k) := by decide +kernel
abbrev cX4_init : ByteArray := prog_6_method_1_code
def yX4_init : MethodName := ⟨RX4, "<init>", "()V"⟩
abbrev cX4_lineWith : ByteArray := prog_6_method_2_code
def yX4_lineWith : MethodName := ⟨RX4, "lineWith", "(I)LDialDesk$Line;"⟩
abbrev cX4_append : ByteArray := prog_6_method_3_code
def yX4_append : MethodName := ⟨RX4, "append", "(LDialDesk$Entry;II)I"⟩
abbrev cX4_portTo : ByteArray := prog_6_method_4_code
def yX4_portTo : MethodName := ⟨RX4, "portTo", "(LDialDesk$Line;II)I"⟩
abbrev cX4_findOn : ByteArray := prog_6_method_5_code
def yX4_findOn : MethodName := ⟨RX4, "findOn", "(LDialDesk$Entry;JI)I"⟩
abbrev cX4_findBy : ByteArray := prog_6_method_6_code
def yX4_findBy : MethodName := ⟨RX4, "findBy", "(LDialDesk$Entry;JII)I"⟩
abbrev cX4_numberedOn : ByteArray := prog_6_method_7_code
def yX4_numberedOn : MethodName := ⟨RX4, "numberedOn", "(I)I"⟩
def RX5 : String := "DialDesk$Option"
def TX5 : u_T := fun k => match k with
  | 0 => ("DialDesk$Option", "block", "LDialDesk$Entry;", true)
  | _ => ("DialDesk$Option", "cost", "I", true)
def tyX5 : Nat → FieldType := fun k => match k with
  | 0 => .object "DialDesk$Entry"
  | _ => .int
theorem nmX5 : ∀ a, a < 2 → ∀ b, b < 2 → a ≠ b → (TX5 a).2.1 ≠ (TX5 b).2.1 := by decide +kernel
theorem tyX5_ok : ∀ k, k < 2 → parseFieldDescriptor (TX5 k).2.2.1 = some (tyX5 k) := by decide +kernel
abbrev cX5_init : ByteArray := prog_7_method_1_code
def yX5_init : MethodName := ⟨RX5, "<init>", "(LDialDesk$Entry;I)V"⟩
def RX6 : String := "DialDesk$Plan"
def TX6 : u_T := fun k => match k with
  | 0 => ("DialDesk$Plan", "entries", "[LDialDesk$Entry;", true)
  | 1 => ("DialDesk$Plan", "size", "I", false)
  | 2 => ("DialDesk$Plan", "lowInForce", "J", false)
  | 3 => ("DialDesk$Plan", "highInForce", "J", false)
  | _ => ("DialDesk$Plan", "reading", "LDialDesk$Reading;", true)
def tyX6 : Nat → FieldType := fun k => match k with
  | 0 => .array (.object "DialDesk$Entry")
  | 1 => .int
  | 2 => .long
  | 3 => .long
  | _ => .object "DialDesk$Reading"
theorem nmX6 : ∀ a, a < 5 → ∀ b, b < 5 → a ≠ b → (TX6 a).2.1 ≠ (TX6 b).2.1 := by decide +kernel
theorem tyX6_ok : ∀ k, k < 5 → parseFieldDescriptor (TX6 k).2.2.1 = some (tyX6 k) := by decide +kernel
abbrev cX6_init : ByteArray := prog_8_method_1_code
def yX6_init : MethodName := ⟨RX6, "<init>", "()V"⟩
abbrev cX6_entryAt : ByteArray := prog_8_method_2_code
def yX6_entryAt : MethodName := ⟨RX6, "entryAt", "(I)LDialDesk$Entry;"⟩
abbrev cX6_blockAt : ByteArray := prog_8_method_3_code
def yX6_blockAt : MethodName := ⟨RX6, "blockAt", "(I)LDialDesk$Entry;"⟩
abbrev cX6_hasRoomFor : ByteArray := prog_8_method_4_code
def yX6_hasRoomFor : MethodName := ⟨RX6, "hasRoomFor", "(I)Z"⟩
abbrev cX6_append : ByteArray := prog_8_method_5_code
def yX6_append : MethodName := ⟨RX6, "append", "(LDialDesk$Entry;)I"⟩
abbrev cX6_change : ByteArray := prog_8_method_6_code
def yX6_change : MethodName := ⟨RX6, "change", "(LDialDesk$Entry;LDialDesk$Entry;I)I"⟩
abbrev cX6_appendFrom : ByteArray := prog_8_method_7_code
def yX6_appendFrom : MethodName := ⟨RX6, "appendFrom", "(LDialDesk$Entry;LDialDesk$Entry;I)V"⟩
abbrev cX6_inForceOn : ByteArray := prog_8_method_8_code
def yX6_inForceOn : MethodName := ⟨RX6, "inForceOn", "(I)I"⟩
abbrev cX6_noteInForce : ByteArray := prog_8_method_9_code
def yX6_noteInForce : MethodName := ⟨RX6, "noteInForce", "(I)V"⟩
abbrev cX6_pairsOf : ByteArray := prog_8_method_10_code
def yX6_pairsOf : MethodName := ⟨RX6, "pairsOf", "(LDialDesk$Entry;)I"⟩
abbrev cX6_pairsOn : ByteArray := prog_8_method_11_code
def yX6_pairsOn : MethodName := ⟨RX6, "pairsOn", "(I)I"⟩
abbrev cX6_pairOn : ByteArray := prog_8_method_12_code
def yX6_pairOn : MethodName := ⟨RX6, "pairOn", "(III)I"⟩
abbrev cX6_partnerOf : ByteArray := prog_8_method_13_code
def yX6_partnerOf : MethodName := ⟨RX6, "partnerOf", "(LDialDesk$Entry;II)I"⟩
abbrev cX6_leadOf : ByteArray := prog_8_method_14_code
def yX6_leadOf : MethodName := ⟨RX6, "leadOf", "(JII)LDialDesk$Entry;"⟩
abbrev cX6_rankOf : ByteArray := prog_8_method_15_code
def yX6_rankOf : MethodName := ⟨RX6, "rankOf", "(I)I"⟩
abbrev cX6_read : ByteArray := prog_8_method_16_code
def yX6_read : MethodName := ⟨RX6, "read", "(JII)LDialDesk$Reading;"⟩
abbrev cX6_roomOf : ByteArray := prog_8_method_17_code
def yX6_roomOf : MethodName := ⟨RX6, "roomOf", "(II)J"⟩
abbrev cX6_nextTurn : ByteArray := prog_8_method_18_code
def yX6_nextTurn : MethodName := ⟨RX6, "nextTurn", "(II)I"⟩
abbrev cX6_sooner : ByteArray := prog_8_method_19_code
def yX6_sooner : MethodName := ⟨RX6, "sooner", "(III)I"⟩
abbrev cX6_clashesOn : ByteArray := prog_8_method_20_code
def yX6_clashesOn : MethodName := ⟨RX6, "clashesOn", "(LDialDesk$Entry;I)Z"⟩
def RX7 : String := "DialDesk$Porting"
def TX7 : u_T := fun k => match k with
  | 0 => ("DialDesk$Porting", "carrier", "I", true)
  | 1 => ("DialDesk$Porting", "day", "I", true)
  | _ => ("DialDesk$Porting", "before", "LDialDesk$Porting;", true)
def tyX7 : Nat → FieldType := fun k => match k with
  | 0 => .int
  | 1 => .int
  | _ => .object "DialDesk$Porting"
theorem nmX7 : ∀ a, a < 3 → ∀ b, b < 3 → a ≠ b → (TX7 a).2.1 ≠ (TX7 b).2.1 := by decide +kernel
theorem tyX7_ok : ∀ k, k < 3 → parseFieldDescriptor (TX7 k).2.2.1 = some (tyX7 k) := by decide +kernel
abbrev cX7_init : ByteArray := prog_9_method_1_code
def yX7_init : MethodName := ⟨RX7, "<init>", "(IILDialDesk$Porting;)V"⟩
def RX8 : String := "DialDesk$Reading"
def TX8 : u_T := fun k => match k with
  | 0 => ("DialDesk$Reading", "whole", "Z", false)
  | 1 => ("DialDesk$Reading", "next", "I", false)
  | 2 => ("DialDesk$Reading", "leastMore", "I", false)
  | _ => ("DialDesk$Reading", "mostMore", "I", false)
def tyX8 : Nat → FieldType := fun k => match k with
  | 0 => .boolean
  | 1 => .int
  | 2 => .int
  | _ => .int
theorem nmX8 : ∀ a, a < 4 → ∀ b, b < 4 → a ≠ b → (TX8 a).2.1 ≠ (TX8 b).2.1 := by decide +kernel
theorem tyX8_ok : ∀ k, k < 4 → parseFieldDescriptor (TX8 k).2.2.1 = some (tyX8 k) := by decide +kernel
abbrev cX8_init : ByteArray := prog_10_method_1_code
def yX8_init : MethodName := ⟨RX8, "<init>", "()V"⟩
abbrev cX8_clear : ByteArray := prog_10_method_2_code
def yX8_clear : MethodName := ⟨RX8, "clear", "()V"⟩
abbrev cX8_add : ByteArray := prog_10_method_3_code
def yX8_add : MethodName := ⟨RX8, "add", "(LDialDesk$Entry;I)V"⟩
abbrev cX8_answer : ByteArray := prog_10_method_4_code
def yX8_answer : MethodName := ⟨RX8, "answer", "()I"⟩
def RX9 : String := "DialDesk$Supply"
def TX9 : u_T := fun k => match k with
  | 0 => ("DialDesk$Supply", "plan", "LDialDesk$Plan;", true)
  | 1 => ("DialDesk$Supply", "demands", "[LDialDesk$Demand;", true)
  | 2 => ("DialDesk$Supply", "options", "[LDialDesk$Option;", true)
  | 3 => ("DialDesk$Supply", "size", "I", false)
  | 4 => ("DialDesk$Supply", "lackWeeks", "[I", true)
  | 5 => ("DialDesk$Supply", "lacks", "[J", true)
  | _ => ("DialDesk$Supply", "lackCount", "I", false)
def tyX9 : Nat → FieldType := fun k => match k with
  | 0 => .object "DialDesk$Plan"
  | 1 => .array (.object "DialDesk$Demand")
  | 2 => .array (.object "DialDesk$Option")
  | 3 => .int
  | 4 => .array .int
  | 5 => .array .long
  | _ => .int
theorem nmX9 : ∀ a, a < 7 → ∀ b, b < 7 → a ≠ b → (TX9 a).2.1 ≠ (TX9 b).2.1 := by decide +kernel
theorem tyX9_ok : ∀ k, k < 7 → parseFieldDescriptor (TX9 k).2.2.1 = some (tyX9 k) := by decide +kernel
abbrev cX9_init : ByteArray := prog_11_method_1_code
def yX9_init : MethodName := ⟨RX9, "<init>", "(LDialDesk$Plan;)V"⟩
abbrev cX9_demandOf : ByteArray := prog_11_method_2_code
def yX9_demandOf : MethodName := ⟨RX9, "demandOf", "(I)LDialDesk$Demand;"⟩
abbrev cX9_optionAt : ByteArray := prog_11_method_3_code
def yX9_optionAt : MethodName := ⟨RX9, "optionAt", "(I)LDialDesk$Option;"⟩
abbrev cX9_offer : ByteArray := prog_11_method_4_code
def yX9_offer : MethodName := ⟨RX9, "offer", "(LDialDesk$Option;)I"⟩
abbrev cX9_withdraw : ByteArray := prog_11_method_5_code
def yX9_withdraw : MethodName := ⟨RX9, "withdraw", "(I)V"⟩
abbrev cX9_firstShort : ByteArray := prog_11_method_6_code
def yX9_firstShort : MethodName := ⟨RX9, "firstShort", "(LDialDesk$Demand;I)I"⟩
abbrev cX9_cheapestRelief : ByteArray := prog_11_method_7_code
def yX9_cheapestRelief : MethodName := ⟨RX9, "cheapestRelief", "(LDialDesk$Demand;II)I"⟩
abbrev cX9_noteLacks : ByteArray := prog_11_method_8_code
def yX9_noteLacks : MethodName := ⟨RX9, "noteLacks", "(LDialDesk$Demand;II)V"⟩
abbrev cX9_nextTurnWithOptions : ByteArray := prog_11_method_9_code
def yX9_nextTurnWithOptions : MethodName := ⟨RX9, "nextTurnWithOptions", "(II)I"⟩
abbrev cX9_usableFor : ByteArray := prog_11_method_10_code
def yX9_usableFor : MethodName := ⟨RX9, "usableFor", "(II)I"⟩
abbrev cX9_costOf : ByteArray := prog_11_method_11_code
def yX9_costOf : MethodName := ⟨RX9, "costOf", "(I)I"⟩
abbrev cX9_isWithoutPair : ByteArray := prog_11_method_12_code
def yX9_isWithoutPair : MethodName := ⟨RX9, "isWithoutPair", "(I)Z"⟩
abbrev cX9_coversLacks : ByteArray := prog_11_method_13_code
def yX9_coversLacks : MethodName := ⟨RX9, "coversLacks", "(I)Z"⟩
abbrev cX9_roomBy : ByteArray := prog_11_method_14_code
def yX9_roomBy : MethodName := ⟨RX9, "roomBy", "(II)J"⟩
def RX10 : String := "DialDesk"
def TX10 : u_T := fun k => match k with
  | 0 => ("DialDesk", "plan", "LDialDesk$Plan;", true)
  | 1 => ("DialDesk", "lines", "LDialDesk$Lines;", true)
  | 2 => ("DialDesk", "calls", "[LDialDesk$Call;", true)
  | 3 => ("DialDesk", "supply", "LDialDesk$Supply;", true)
  | _ => ("DialDesk", "clock", "I", false)
def tyX10 : Nat → FieldType := fun k => match k with
  | 0 => .object "DialDesk$Plan"
  | 1 => .object "DialDesk$Lines"
  | 2 => .array (.object "DialDesk$Call")
  | 3 => .object "DialDesk$Supply"
  | _ => .int
theorem nmX10 : ∀ a, a < 5 → ∀ b, b < 5 → a ≠ b → (TX10 a).2.1 ≠ (TX10 b).2.1 := by decide +kernel
theorem tyX10_ok : ∀ k, k < 5 → parseFieldDescriptor (TX10 k).2.2.1 = some (tyX10 k) := by decide +kernel
abbrev cX10_init : ByteArray := prog_1_method_1_code
def yX10_init : MethodName := ⟨RX10, "<init>", "()V"⟩
abbrev cX10_now : ByteArray := prog_1_method_2_code
def yX10_now : MethodName := ⟨RX10, "now", "(I)I"⟩
abbrev cX10_block : ByteArray := prog_1_method_3_code
def yX10_block : MethodName := ⟨RX10, "block", "(IIIII)I"⟩
abbrev cX10_service : ByteArray := prog_1_method_4_code
def yX10_service : MethodName := ⟨RX10, "service", "(III)I"⟩
abbrev cX10_foreign : ByteArray := prog_1_method_5_code
def yX10_foreign : MethodName := ⟨RX10, "foreign", "(IIII)I"⟩
abbrev cX10_finish : ByteArray := prog_1_method_6_code
def yX10_finish : MethodName := ⟨RX10, "finish", "(II)I"⟩
abbrev cX10_split : ByteArray := prog_1_method_7_code
def yX10_split : MethodName := ⟨RX10, "split", "(IIIIII)I"⟩
abbrev cX10_lengthen : ByteArray := prog_1_method_8_code
def yX10_lengthen : MethodName := ⟨RX10, "lengthen", "(IIII)I"⟩
abbrev cX10_entry : ByteArray := prog_1_method_9_code
def yX10_entry : MethodName := ⟨RX10, "entry", "(II)I"⟩
abbrev cX10_pairs : ByteArray := prog_1_method_10_code
def yX10_pairs : MethodName := ⟨RX10, "pairs", "(I)I"⟩
abbrev cX10_pair : ByteArray := prog_1_method_11_code
def yX10_pair : MethodName := ⟨RX10, "pair", "(III)I"⟩
abbrev cX10_line : ByteArray := prog_1_method_12_code
def yX10_line : MethodName := ⟨RX10, "line", "(II)I"⟩
abbrev cX10_drop : ByteArray := prog_1_method_13_code
def yX10_drop : MethodName := ⟨RX10, "drop", "(I)I"⟩
abbrev cX10_port : ByteArray := prog_1_method_14_code
def yX10_port : MethodName := ⟨RX10, "port", "(II)I"⟩
abbrev cX10_numberOf : ByteArray := prog_1_method_15_code
def yX10_numberOf : MethodName := ⟨RX10, "numberOf", "(II)J"⟩
abbrev cX10_lineAt : ByteArray := prog_1_method_16_code
def yX10_lineAt : MethodName := ⟨RX10, "lineAt", "(III)I"⟩
abbrev cX10_call : ByteArray := prog_1_method_17_code
def yX10_call : MethodName := ⟨RX10, "call", "(I)I"⟩
abbrev cX10_figure : ByteArray := prog_1_method_18_code
def yX10_figure : MethodName := ⟨RX10, "figure", "(II)I"⟩
abbrev cX10_waits : ByteArray := prog_1_method_19_code
def yX10_waits : MethodName := ⟨RX10, "waits", "(I)I"⟩
abbrev cX10_told : ByteArray := prog_1_method_20_code
def yX10_told : MethodName := ⟨RX10, "told", "(II)I"⟩
abbrev cX10_leads : ByteArray := prog_1_method_21_code
def yX10_leads : MethodName := ⟨RX10, "leads", "(JI)I"⟩
abbrev cX10_demand : ByteArray := prog_1_method_22_code
def yX10_demand : MethodName := ⟨RX10, "demand", "(III)I"⟩
abbrev cX10_room : ByteArray := prog_1_method_23_code
def yX10_room : MethodName := ⟨RX10, "room", "(II)J"⟩
abbrev cX10_shortage : ByteArray := prog_1_method_24_code
def yX10_shortage : MethodName := ⟨RX10, "shortage", "(I)I"⟩
abbrev cX10_mightCome : ByteArray := prog_1_method_25_code
def yX10_mightCome : MethodName := ⟨RX10, "mightCome", "(IIIIII)I"⟩
abbrev cX10_relief : ByteArray := prog_1_method_26_code
def yX10_relief : MethodName := ⟨RX10, "relief", "(II)I"⟩
abbrev cX10_take : ByteArray := prog_1_method_27_code
def yX10_take : MethodName := ⟨RX10, "take", "(I)I"⟩
abbrev cX10_count : ByteArray := prog_1_method_28_code
def yX10_count : MethodName := ⟨RX10, "count", "(I)I"⟩
abbrev cX10_isDayToCome : ByteArray := prog_1_method_29_code
def yX10_isDayToCome : MethodName := ⟨RX10, "isDayToCome", "(I)Z"⟩
abbrev cX10_canChange : ByteArray := prog_1_method_30_code
def yX10_canChange : MethodName := ⟨RX10, "canChange", "(LDialDesk$Entry;II)Z"⟩
abbrev cX10_callWith : ByteArray := prog_1_method_31_code
def yX10_callWith : MethodName := ⟨RX10, "callWith", "(I)LDialDesk$Call;"⟩
abbrev cX10_tellOfLead : ByteArray := prog_1_method_32_code
def yX10_tellOfLead : MethodName := ⟨RX10, "tellOfLead", "(LDialDesk$Call;I)I"⟩
abbrev cX10_tellOfRest : ByteArray := prog_1_method_33_code
def yX10_tellOfRest : MethodName := ⟨RX10, "tellOfRest", "(LDialDesk$Call;I)I"⟩
abbrev cX10_isDay : ByteArray := prog_1_method_34_code
def yX10_isDay : MethodName := ⟨RX10, "isDay", "(I)Z"⟩
abbrev cX10_isBlock : ByteArray := prog_1_method_35_code
def yX10_isBlock : MethodName := ⟨RX10, "isBlock", "(IIII)Z"⟩
abbrev cX10_isWithin : ByteArray := prog_1_method_36_code
def yX10_isWithin : MethodName := ⟨RX10, "isWithin", "(III)Z"⟩
abbrev cX10_tens : ByteArray := prog_1_method_37_code
def yX10_tens : MethodName := ⟨RX10, "tens", "(I)J"⟩
abbrev cX10_placesOf : ByteArray := prog_1_method_38_code
def yX10_placesOf : MethodName := ⟨RX10, "placesOf", "(J)I"⟩
abbrev cX10_withoutLast : ByteArray := prog_1_method_39_code
def yX10_withoutLast : MethodName := ⟨RX10, "withoutLast", "(JI)J"⟩
abbrev cX10_lastOf : ByteArray := prog_1_method_40_code
def yX10_lastOf : MethodName := ⟨RX10, "lastOf", "(JI)J"⟩
abbrev cX10_figureBit : ByteArray := prog_1_method_41_code
def yX10_figureBit : MethodName := ⟨RX10, "figureBit", "(JII)I"⟩
abbrev cX10_weekBehind : ByteArray := prog_1_method_42_code
def yX10_weekBehind : MethodName := ⟨RX10, "weekBehind", "(I)I"⟩
def RX11 : String := "DialDeskModel"
def TX11 : u_T := fun k => match k with
  | 0 => ("DialDeskModel", "clock", "I", false)
  | 1 => ("DialDeskModel", "entries", "I", false)
  | 2 => ("DialDeskModel", "kind", "[I", true)
  | 3 => ("DialDeskModel", "area", "[I", true)
  | 4 => ("DialDeskModel", "prefix", "[I", true)
  | 5 => ("DialDeskModel", "set", "[I", true)
  | 6 => ("DialDeskModel", "least", "[I", true)
  | 7 => ("DialDeskModel", "most", "[I", true)
  | 8 => ("DialDeskModel", "first", "[I", true)
  | 9 => ("DialDeskModel", "last", "[I", true)
  | 10 => ("DialDeskModel", "cameOf", "[I", true)
  | 11 => ("DialDeskModel", "changed", "[I", true)
  | 12 => ("DialDeskModel", "rest", "[I", true)
  | 13 => ("DialDeskModel", "off", "[I", true)
  | 14 => ("DialDeskModel", "other", "[I", true)
  | 15 => ("DialDeskModel", "numbers", "[J", true)
  | 16 => ("DialDeskModel", "lines", "I", false)
  | 17 => ("DialDeskModel", "lBlock", "[I", true)
  | 18 => ("DialDeskModel", "lBehind", "[J", true)
  | 19 => ("DialDeskModel", "lFirst", "[I", true)
  | 20 => ("DialDeskModel", "lLast", "[I", true)
  | 21 => ("DialDeskModel", "ports", "I", false)
  | 22 => ("DialDeskModel", "pLine", "[I", true)
  | 23 => ("DialDeskModel", "pDay", "[I", true)
  | 24 => ("DialDeskModel", "pCarrier", "[I", true)
  | 25 => ("DialDeskModel", "cDay", "[I", true)
  | 26 => ("DialDeskModel", "cMany", "[I", true)
  | 27 => ("DialDeskModel", "cFigure", "[I", true)
  | 28 => ("DialDeskModel", "cAnswer", "[I", true)
  | 29 => ("DialDeskModel", "cOver", "[Z", true)
  | 30 => ("DialDeskModel", "cIs", "[Z", true)
  | 31 => ("DialDeskModel", "hand", "[I", true)
  | 32 => ("DialDeskModel", "held", "I", false)
  | 33 => ("DialDeskModel", "asked", "[I", true)
  | 34 => ("DialDeskModel", "askedMore", "[I", true)
  | 35 => ("DialDeskModel", "options", "I", false)
  | 36 => ("DialDeskModel", "cost", "[I", true)
  | _ => ("DialDeskModel", "base", "[J", true)
def tyX11 : Nat → FieldType := fun k => match k with
  | 0 => .int
  | 1 => .int
  | 2 => .array .int
  | 3 => .array .int
  | 4 => .array .int
  | 5 => .array .int
  | 6 => .array .int
  | 7 => .array .int
  | 8 => .array .int
  | 9 => .array .int
  | 10 => .array .int
  | 11 => .array .int
  | 12 => .array .int
  | 13 => .array .int
  | 14 => .array .int
  | 15 => .array .long
  | 16 => .int
  | 17 => .array .int
  | 18 => .array .long
  | 19 => .array .int
  | 20 => .array .int
  | 21 => .int
  | 22 => .array .int
  | 23 => .array .int
  | 24 => .array .int
  | 25 => .array .int
  | 26 => .array .int
  | 27 => .array .int
  | 28 => .array .int
  | 29 => .array .boolean
  | 30 => .array .boolean
  | 31 => .array .int
  | 32 => .int
  | 33 => .array .int
  | 34 => .array .int
  | 35 => .int
  | 36 => .array .int
  | _ => .array .long
theorem nmX11 : ∀ a, a < 38 → ∀ b, b < 38 → a ≠ b → (TX11 a).2.1 ≠ (TX11 b).2.1 := by decide +kernel
theorem tyX11_ok : ∀ k, k < 38 → parseFieldDescriptor (TX11 k).2.2.1 = some (tyX11 k) := by decide +kernel
abbrev cX11_init : ByteArray := prog_13_method_1_code
def yX11_init : MethodName := ⟨RX11, "<init>", "()V"⟩
abbrev cX11_in : ByteArray := prog_13_method_2_code
def yX11_in : MethodName := ⟨RX11, "in", "(JJJ)Z"⟩
abbrev cX11_isDay : ByteArray := prog_13_method_3_code
def yX11_isDay : MethodName := ⟨RX11, "isDay", "(I)Z"⟩
abbrev cX11_now : ByteArray := prog_13_method_4_code
def yX11_now : MethodName := ⟨RX11, "now", "(I)I"⟩
abbrev cX11_figuresOf : ByteArray := prog_13_method_5_code
def yX11_figuresOf : MethodName := ⟨RX11, "figuresOf", "(J)I"⟩
abbrev cX11_figureAt : ByteArray := prog_13_method_6_code
def yX11_figureAt : MethodName := ⟨RX11, "figureAt", "(JI)I"⟩
abbrev cX11_lengthOf : ByteArray := prog_13_method_7_code
def yX11_lengthOf : MethodName := ⟨RX11, "lengthOf", "(I)I"⟩
abbrev cX11_put : ByteArray := prog_13_method_8_code
def yX11_put : MethodName := ⟨RX11, "put", "(IIIIIIIII)I"⟩
abbrev cX11_add : ByteArray := prog_13_method_9_code
def yX11_add : MethodName := ⟨RX11, "add", "(IIIIIIIII)I"⟩
abbrev cX11_isFree : ByteArray := prog_13_method_10_code
def yX11_isFree : MethodName := ⟨RX11, "isFree", "(I)Z"⟩
abbrev cX11_mayBlock : ByteArray := prog_13_method_11_code
def yX11_mayBlock : MethodName := ⟨RX11, "mayBlock", "(IIIII)Z"⟩
abbrev cX11_block : ByteArray := prog_13_method_12_code
def yX11_block : MethodName := ⟨RX11, "block", "(IIIII)I"⟩
abbrev cX11_service : ByteArray := prog_13_method_13_code
def yX11_service : MethodName := ⟨RX11, "service", "(III)I"⟩
abbrev cX11_foreign : ByteArray := prog_13_method_14_code
def yX11_foreign : MethodName := ⟨RX11, "foreign", "(IIII)I"⟩
abbrev cX11_isEntry : ByteArray := prog_13_method_15_code
def yX11_isEntry : MethodName := ⟨RX11, "isEntry", "(I)Z"⟩
abbrev cX11_isForce : ByteArray := prog_13_method_16_code
def yX11_isForce : MethodName := ⟨RX11, "isForce", "(II)Z"⟩
abbrev cX11_mayEnd : ByteArray := prog_13_method_17_code
def yX11_mayEnd : MethodName := ⟨RX11, "mayEnd", "(II)Z"⟩
abbrev cX11_finish : ByteArray := prog_13_method_18_code
def yX11_finish : MethodName := ⟨RX11, "finish", "(II)I"⟩
abbrev cX11_mayChange : ByteArray := prog_13_method_19_code
def yX11_mayChange : MethodName := ⟨RX11, "mayChange", "(III)Z"⟩
abbrev cX11_park : ByteArray := prog_13_method_20_code
def yX11_park : MethodName := ⟨RX11, "park", "(IIIIII)V"⟩
abbrev cX11_split : ByteArray := prog_13_method_21_code
def yX11_split : MethodName := ⟨RX11, "split", "(IIIIII)I"⟩
abbrev cX11_lengthen : ByteArray := prog_13_method_22_code
def yX11_lengthen : MethodName := ⟨RX11, "lengthen", "(IIII)I"⟩
abbrev cX11_entry : ByteArray := prog_13_method_23_code
def yX11_entry : MethodName := ⟨RX11, "entry", "(II)I"⟩
abbrev cX11_may : ByteArray := prog_13_method_24_code
def yX11_may : MethodName := ⟨RX11, "may", "(II)I"⟩
abbrev cX11_begins : ByteArray := prog_13_method_25_code
def yX11_begins : MethodName := ⟨RX11, "begins", "(II)Z"⟩
abbrev cX11_isPair : ByteArray := prog_13_method_26_code
def yX11_isPair : MethodName := ⟨RX11, "isPair", "(II)Z"⟩
abbrev cX11_pairs : ByteArray := prog_13_method_27_code
def yX11_pairs : MethodName := ⟨RX11, "pairs", "(I)I"⟩
abbrev cX11_pair : ByteArray := prog_13_method_28_code
def yX11_pair : MethodName := ⟨RX11, "pair", "(III)I"⟩
abbrev cX11_follow : ByteArray := prog_13_method_29_code
def yX11_follow : MethodName := ⟨RX11, "follow", "(IJI)I"⟩
abbrev cX11_blockOf : ByteArray := prog_13_method_30_code
def yX11_blockOf : MethodName := ⟨RX11, "blockOf", "(II)I"⟩
abbrev cX11_lineOn : ByteArray := prog_13_method_31_code
def yX11_lineOn : MethodName := ⟨RX11, "lineOn", "(IJI)I"⟩
abbrev cX11_line : ByteArray := prog_13_method_32_code
def yX11_line : MethodName := ⟨RX11, "line", "(II)I"⟩
abbrev cX11_isLine : ByteArray := prog_13_method_33_code
def yX11_isLine : MethodName := ⟨RX11, "isLine", "(I)Z"⟩
abbrev cX11_drop : ByteArray := prog_13_method_34_code
def yX11_drop : MethodName := ⟨RX11, "drop", "(I)I"⟩
abbrev cX11_carrierOf : ByteArray := prog_13_method_35_code
def yX11_carrierOf : MethodName := ⟨RX11, "carrierOf", "(II)I"⟩
abbrev cX11_port : ByteArray := prog_13_method_36_code
def yX11_port : MethodName := ⟨RX11, "port", "(II)I"⟩
abbrev cX11_joined : ByteArray := prog_13_method_37_code
def yX11_joined : MethodName := ⟨RX11, "joined", "(JJ)J"⟩
abbrev cX11_numberOf : ByteArray := prog_13_method_38_code
def yX11_numberOf : MethodName := ⟨RX11, "numberOf", "(II)J"⟩
abbrev cX11_lineAt : ByteArray := prog_13_method_39_code
def yX11_lineAt : MethodName := ⟨RX11, "lineAt", "(III)I"⟩
abbrev cX11_isCall : ByteArray := prog_13_method_40_code
def yX11_isCall : MethodName := ⟨RX11, "isCall", "(I)Z"⟩
abbrev cX11_call : ByteArray := prog_13_method_41_code
def yX11_call : MethodName := ⟨RX11, "call", "(I)I"⟩
abbrev cX11_takeCall : ByteArray := prog_13_method_42_code
def yX11_takeCall : MethodName := ⟨RX11, "takeCall", "(I)V"⟩
abbrev cX11_takeNumber : ByteArray := prog_13_method_43_code
def yX11_takeNumber : MethodName := ⟨RX11, "takeNumber", "(J)V"⟩
abbrev cX11_isBegun : ByteArray := prog_13_method_44_code
def yX11_isBegun : MethodName := ⟨RX11, "isBegun", "(I)Z"⟩
abbrev cX11_isNumber : ByteArray := prog_13_method_45_code
def yX11_isNumber : MethodName := ⟨RX11, "isNumber", "(I)Z"⟩
abbrev cX11_goesOn : ByteArray := prog_13_method_46_code
def yX11_goesOn : MethodName := ⟨RX11, "goesOn", "(I)Z"⟩
abbrev cX11_answer : ByteArray := prog_13_method_47_code
def yX11_answer : MethodName := ⟨RX11, "answer", "(I)I"⟩
abbrev cX11_figure : ByteArray := prog_13_method_48_code
def yX11_figure : MethodName := ⟨RX11, "figure", "(II)I"⟩
abbrev cX11_waits : ByteArray := prog_13_method_49_code
def yX11_waits : MethodName := ⟨RX11, "waits", "(I)I"⟩
abbrev cX11_leadsTo : ByteArray := prog_13_method_50_code
def yX11_leadsTo : MethodName := ⟨RX11, "leadsTo", "(I)I"⟩
abbrev cX11_rank : ByteArray := prog_13_method_51_code
def yX11_rank : MethodName := ⟨RX11, "rank", "(I)I"⟩
abbrev cX11_lineOf : ByteArray := prog_13_method_52_code
def yX11_lineOf : MethodName := ⟨RX11, "lineOf", "(II)I"⟩
abbrev cX11_told : ByteArray := prog_13_method_53_code
def yX11_told : MethodName := ⟨RX11, "told", "(II)I"⟩
abbrev cX11_behind : ByteArray := prog_13_method_54_code
def yX11_behind : MethodName := ⟨RX11, "behind", "(I)I"⟩
abbrev cX11_toCome : ByteArray := prog_13_method_55_code
def yX11_toCome : MethodName := ⟨RX11, "toCome", "(IZ)I"⟩
abbrev cX11_leads : ByteArray := prog_13_method_56_code
def yX11_leads : MethodName := ⟨RX11, "leads", "(JI)I"⟩
abbrev cX11_demand : ByteArray := prog_13_method_57_code
def yX11_demand : MethodName := ⟨RX11, "demand", "(III)I"⟩
abbrev cX11_numbersOf : ByteArray := prog_13_method_58_code
def yX11_numbersOf : MethodName := ⟨RX11, "numbersOf", "(I)J"⟩
abbrev cX11_roomAt : ByteArray := prog_13_method_59_code
def yX11_roomAt : MethodName := ⟨RX11, "roomAt", "(II)J"⟩
abbrev cX11_room : ByteArray := prog_13_method_60_code
def yX11_room : MethodName := ⟨RX11, "room", "(II)J"⟩
abbrev cX11_makeBase : ByteArray := prog_13_method_61_code
def yX11_makeBase : MethodName := ⟨RX11, "makeBase", "(I)V"⟩
abbrev cX11_shortageWith : ByteArray := prog_13_method_62_code
def yX11_shortageWith : MethodName := ⟨RX11, "shortageWith", "(II)I"⟩
abbrev cX11_shortage : ByteArray := prog_13_method_63_code
def yX11_shortage : MethodName := ⟨RX11, "shortage", "(I)I"⟩
abbrev cX11_mightCome : ByteArray := prog_13_method_64_code
def yX11_mightCome : MethodName := ⟨RX11, "mightCome", "(IIIIII)I"⟩
abbrev cX11_mayAll : ByteArray := prog_13_method_65_code
def yX11_mayAll : MethodName := ⟨RX11, "mayAll", "(I)Z"⟩
abbrev cX11_relief : ByteArray := prog_13_method_66_code
def yX11_relief : MethodName := ⟨RX11, "relief", "(II)I"⟩
abbrev cX11_take : ByteArray := prog_13_method_67_code
def yX11_take : MethodName := ⟨RX11, "take", "(I)I"⟩
abbrev cX11_count : ByteArray := prog_13_method_68_code
def yX11_count : MethodName := ⟨RX11, "count", "(I)I"⟩
def RJ6 : String := "java/lang/Integer"
def TJ6 : u_T := fun k => match k with
  | _ => ("", "", "", false)
def tyJ6 : Nat → FieldType := fun k => match k with
  | _ => .int
abbrev cJ6_bitCount_0f7a4 : ByteArray := prog_14_method_49_code
def yJ6_bitCount_0f7a4 : MethodName := ⟨RJ6, "bitCount", "(I)I"⟩
def RJ13 : String := "java/lang/Long"
def TJ13 : u_T := fun k => match k with
  | _ => ("", "", "", false)
def tyJ13 : Nat → FieldType := fun k => match k with
  | _ => .int
abbrev cJ13_bitCount_95d88 : ByteArray := prog_15_method_50_code
def yJ13_bitCount_95d88 : MethodName := ⟨RJ13, "bitCount", "(J)I"⟩
def RJ9 : String := "java/lang/Math"
def TJ9 : u_T := fun k => match k with
  | _ => ("", "", "", false)
def tyJ9 : Nat → FieldType := fun k => match k with
  | _ => .int
abbrev cJ9_max_7cf53 : ByteArray := prog_16_method_65_code
def yJ9_max_7cf53 : MethodName := ⟨RJ9, "max", "(II)I"⟩
abbrev cJ9_min_7cf53 : ByteArray := prog_16_method_69_code
def yJ9_min_7cf53 : MethodName := ⟨RJ9, "min", "(II)I"⟩
abbrev cJ9_min_f86c9 : ByteArray := prog_16_method_70_code
def yJ9_min_f86c9 : MethodName := ⟨RJ9, "min", "(JJ)J"⟩
def RL : String := "DialDeskLaw"
abbrev cL_law : ByteArray := code
def yL_law : MethodName := ⟨RL, "law", "([I)Z"⟩
abbrev vwCl : List vw_C := [(RX0, TX0, 6), (RX1, TX1, 3), (RX2, TX2, 18), (RX3, TX3, 6), (RX4, TX4, 3), (RX5, TX5, 2), (RX6, TX6, 5), (RX7, TX7, 3), (RX8, TX8, 4), (RX9, TX9, 7), (RX10, TX10, 5), (RX11, TX11, 38)]
end
section
theorem dX0_init_0 : decode cX0_init 0 = .ok (.aload_n 0, 1) := by decide +kernel
theorem dX0_init_1 : decode cX0_init 1 = .ok (.invokespecial 3, 3) := by decide +kernel
theorem dX0_init_4 : decode cX0_init 4 = .ok (.return_, 1) := by decide +kernel
theorem dX0_begin_0 : decode cX0_begin 0 = .ok (.aload_n 0, 1) := by decide +kernel
theorem dX0_begin_1 : decode cX0_begin 1 = .ok (.iconst 1, 1) := by decide +kernel
theorem dX0_begin_2 : decode cX0_begin 2 = .ok (.putfield 9, 3) := by decide +kernel
theorem dX0_begin_5 : decode cX0_begin 5 = .ok (.aload_n 0, 1) := by decide +kernel
theorem dX0_begin_6 : decode cX0_begin 6 = .ok (.iconst 0, 1) := by decide +kernel
theorem dX0_begin_7 : decode cX0_begin 7 = .ok (.putfield 15, 3) := by decide +kernel
theorem dX0_begin_10 : decode cX0_begin 10 = .ok (.aload_n 0, 1) := by decide +kernel
theorem dX0_begin_11 : decode cX0_begin 11 = .ok (.iload_n 1, 1) := by decide +kernel
theorem dX0_begin_12 : decode cX0_begin 12 = .ok (.putfield 18, 3) := by decide +kernel
theorem dX0_begin_15 : decode cX0_begin 15 = .ok (.aload_n 0, 1) := by decide +kernel
theorem dX0_begin_16 : decode cX0_begin 16 = .ok (.iconst (-1), 1) := by decide +kernel
theorem dX0_begin_17 : decode cX0_begin 17 = .ok (.putfield 22, 3) := by decide +kernel
theorem dX0_begin_20 : decode cX0_begin 20 = .ok (.aload_n 0, 1) := by decide +kernel
theorem dX0_begin_21 : decode cX0_begin 21 = .ok (.iconst 0, 1) := by decide +kernel
theorem dX0_begin_22 : decode cX0_begin 22 = .ok (.putfield 25, 3) := by decide +kernel
theorem dX0_begin_25 : decode cX0_begin 25 = .ok (.aload_n 0, 1) := by decide +kernel
theorem dX0_begin_26 : decode cX0_begin 26 = .ok (.lconst 1, 1) := by decide +kernel
theorem dX0_begin_27 : decode cX0_begin 27 = .ok (.putfield 28, 3) := by decide +kernel
theorem dX0_begin_30 : decode cX0_begin 30 = .ok (.return_, 1) := by decide +kernel
theorem dX0_isOpen_0 : decode cX0_isOpen 0 = .ok (.aload_n 0, 1) := by decide +kernel
theorem dX0_isOpen_1 : decode cX0_isOpen 1 = .ok (.getfield 9, 3) := by decide +kernel
theorem dX0_isOpen_4 : decode cX0_isOpen 4 = .ok (.ifCond .eq 14, 3) := by decide +kernel
theorem dX0_isOpen_7 : decode cX0_isOpen 7 = .ok (.aload_n 0, 1) := by decide +kernel
theorem dX0_isOpen_8 : decode cX0_isOpen 8 = .ok (.getfield 15, 3) := by decide +kernel
theorem dX0_isOpen_11 : decode cX0_isOpen 11 = .ok (.ifCond .ne 7, 3) := by decide +kernel
theorem dX0_isOpen_14 : decode cX0_isOpen 14 = .ok (.iconst 1, 1) := by decide +kernel
theorem dX0_isOpen_15 : decode cX0_isOpen 15 = .ok (.goto 4, 3) := by decide +kernel
theorem dX0_isOpen_18 : decode cX0_isOpen 18 = .ok (.iconst 0, 1) := by decide +kernel
theorem dX0_isOpen_19 : decode cX0_isOpen 19 = .ok (.ireturn, 1) := by decide +kernel
theorem dX0_hear_0 : decode cX0_hear 0 = .ok (.aload_n 0, 1) := by decide +kernel
theorem dX0_hear_1 : decode cX0_hear 1 = .ok (.aload_n 0, 1) := by decide +kernel
theorem dX0_hear_2 : decode cX0_hear 2 = .ok (.getfield 28, 3) := by decide +kernel
theorem dX0_hear_5 : decode cX0_hear 5 = .ok (.ldc2_w 32, 3) := by decide +kernel
theorem dX0_hear_8 : decode cX0_hear 8 = .ok (.lmul, 1) := by decide +kernel
theorem dX0_hear_9 : decode cX0_hear 9 = .ok (.iload_n 1, 1) := by decide +kernel
theorem dX0_hear_10 : decode cX0_hear 10 = .ok (.i2l, 1) := by decide +kernel
theorem dX0_hear_11 : decode cX0_hear 11 = .ok (.ladd, 1) := by decide +kernel
theorem dX0_hear_12 : decode cX0_hear 12 = .ok (.putfield 28, 3) := by decide +kernel
theorem dX0_hear_15 : decode cX0_hear 15 = .ok (.aload_n 0, 1) := by decide +kernel
theorem dX0_hear_16 : decode cX0_hear 16 = .ok (.dup, 1) := by decide +kernel
theorem dX0_hear_17 : decode cX0_hear 17 = .ok (.getfield 25, 3) := by decide +kernel
theorem dX0_hear_20 : decode cX0_hear 20 = .ok (.iconst 1, 1) := by decide +kernel
theorem dX0_hear_21 : decode cX0_hear 21 = .ok (.iadd, 1) := by decide +kernel
theorem dX0_hear_22 : decode cX0_hear 22 = .ok (.putfield 25, 3) := by decide +kernel
theorem dX0_hear_25 : decode cX0_hear 25 = .ok (.return_, 1) := by decide +kernel
theorem dX1_init_0 : decode cX1_init 0 = .ok (.aload_n 0, 1) := by decide +kernel
theorem dX1_init_1 : decode cX1_init 1 = .ok (.invokespecial 3, 3) := by decide +kernel
theorem dX1_init_4 : decode cX1_init 4 = .ok (.aload_n 0, 1) := by decide +kernel
theorem dX1_init_5 : decode cX1_init 5 = .ok (.iload_n 1, 1) := by decide +kernel
theorem dX1_init_6 : decode cX1_init 6 = .ok (.putfield 9, 3) := by decide +kernel
theorem dX1_init_9 : decode cX1_init 9 = .ok (.return_, 1) := by decide +kernel
theorem dX1_askedIn_0 : decode cX1_askedIn 0 = .ok (.aload_n 0, 1) := by decide +kernel
theorem dX1_askedIn_1 : decode cX1_askedIn 1 = .ok (.getfield 15, 3) := by decide +kernel
theorem dX1_askedIn_4 : decode cX1_askedIn 4 = .ok (.i2l, 1) := by decide +kernel
theorem dX1_askedIn_5 : decode cX1_askedIn 5 = .ok (.aload_n 0, 1) := by decide +kernel
theorem dX1_askedIn_6 : decode cX1_askedIn 6 = .ok (.getfield 18, 3) := by decide +kernel
theorem dX1_askedIn_9 : decode cX1_askedIn 9 = .ok (.i2l, 1) := by decide +kernel
theorem dX1_askedIn_10 : decode cX1_askedIn 10 = .ok (.iload_n 1, 1) := by decide +kernel
theorem dX1_askedIn_11 : decode cX1_askedIn 11 = .ok (.i2l, 1) := by decide +kernel
theorem dX1_askedIn_12 : decode cX1_askedIn 12 = .ok (.lmul, 1) := by decide +kernel
theorem dX1_askedIn_13 : decode cX1_askedIn 13 = .ok (.ladd, 1) := by decide +kernel
theorem dX1_askedIn_14 : decode cX1_askedIn 14 = .ok (.lreturn, 1) := by decide +kernel
theorem dX1_firstAbove_0 : decode cX1_firstAbove 0 = .ok (.aload_n 0, 1) := by decide +kernel
theorem dX1_firstAbove_1 : decode cX1_firstAbove 1 = .ok (.iload_n 3, 1) := by decide +kernel
theorem dX1_firstAbove_2 : decode cX1_firstAbove 2 = .ok (.invokevirtual 21, 3) := by decide +kernel
theorem dX1_firstAbove_5 : decode cX1_firstAbove 5 = .ok (.lload_n 1, 1) := by decide +kernel
theorem dX1_firstAbove_6 : decode cX1_firstAbove 6 = .ok (.lcmp, 1) := by decide +kernel
theorem dX1_firstAbove_7 : decode cX1_firstAbove 7 = .ok (.ifCond .le 5, 3) := by decide +kernel
theorem dX1_firstAbove_10 : decode cX1_firstAbove 10 = .ok (.iload_n 3, 1) := by decide +kernel
theorem dX1_firstAbove_11 : decode cX1_firstAbove 11 = .ok (.ireturn, 1) := by decide +kernel
theorem dX1_firstAbove_12 : decode cX1_firstAbove 12 = .ok (.aload_n 0, 1) := by decide +kernel
theorem dX1_firstAbove_13 : decode cX1_firstAbove 13 = .ok (.getfield 18, 3) := by decide +kernel
theorem dX1_firstAbove_16 : decode cX1_firstAbove 16 = .ok (.ifCond .gt 7, 3) := by decide +kernel
theorem dX1_firstAbove_19 : decode cX1_firstAbove 19 = .ok (.sipush 2001, 3) := by decide +kernel
theorem dX1_firstAbove_22 : decode cX1_firstAbove 22 = .ok (.ireturn, 1) := by decide +kernel
theorem dX1_firstAbove_23 : decode cX1_firstAbove 23 = .ok (.ldc2_w 25, 3) := by decide +kernel
theorem dX1_firstAbove_26 : decode cX1_firstAbove 26 = .ok (.lload_n 1, 1) := by decide +kernel
theorem dX1_firstAbove_27 : decode cX1_firstAbove 27 = .ok (.aload_n 0, 1) := by decide +kernel
theorem dX1_firstAbove_28 : decode cX1_firstAbove 28 = .ok (.getfield 15, 3) := by decide +kernel
theorem dX1_firstAbove_31 : decode cX1_firstAbove 31 = .ok (.i2l, 1) := by decide +kernel
theorem dX1_firstAbove_32 : decode cX1_firstAbove 32 = .ok (.lsub, 1) := by decide +kernel
theorem dX1_firstAbove_33 : decode cX1_firstAbove 33 = .ok (.aload_n 0, 1) := by decide +kernel
theorem dX1_firstAbove_34 : decode cX1_firstAbove 34 = .ok (.getfield 18, 3) := by decide +kernel
theorem dX1_firstAbove_37 : decode cX1_firstAbove 37 = .ok (.i2l, 1) := by decide +kernel
theorem dX1_firstAbove_38 : decode cX1_firstAbove 38 = .ok (.ldiv, 1) := by decide +kernel
theorem dX1_firstAbove_39 : decode cX1_firstAbove 39 = .ok (.lconst 1, 1) := by decide +kernel
theorem dX1_firstAbove_40 : decode cX1_firstAbove 40 = .ok (.ladd, 1) := by decide +kernel
theorem dX1_firstAbove_41 : decode cX1_firstAbove 41 = .ok (.invokestatic 27, 3) := by decide +kernel
theorem dX1_firstAbove_44 : decode cX1_firstAbove 44 = .ok (.l2i, 1) := by decide +kernel
theorem dX1_firstAbove_45 : decode cX1_firstAbove 45 = .ok (.ireturn, 1) := by decide +kernel
theorem dX2_init_0 : decode cX2_init 0 = .ok (.aload_n 0, 1) := by decide +kernel
theorem dX2_init_1 : decode cX2_init 1 = .ok (.invokespecial 3, 3) := by decide +kernel
theorem dX2_init_4 : decode cX2_init 4 = .ok (.aload_n 0, 1) := by decide +kernel
theorem dX2_init_5 : decode cX2_init 5 = .ok (.iload_n 1, 1) := by decide +kernel
theorem dX2_init_6 : decode cX2_init 6 = .ok (.putfield 9, 3) := by decide +kernel
theorem dX2_init_9 : decode cX2_init 9 = .ok (.aload_n 0, 1) := by decide +kernel
theorem dX2_init_10 : decode cX2_init 10 = .ok (.iload_n 2, 1) := by decide +kernel
theorem dX2_init_11 : decode cX2_init 11 = .ok (.putfield 15, 3) := by decide +kernel
theorem dX2_init_14 : decode cX2_init 14 = .ok (.aload_n 0, 1) := by decide +kernel
theorem dX2_init_15 : decode cX2_init 15 = .ok (.iload_n 3, 1) := by decide +kernel
theorem dX2_init_16 : decode cX2_init 16 = .ok (.putfield 18, 3) := by decide +kernel
theorem dX2_init_19 : decode cX2_init 19 = .ok (.aload_n 0, 1) := by decide +kernel
theorem dX2_init_20 : decode cX2_init 20 = .ok (.iload_n 3, 1) := by decide +kernel
theorem dX2_init_21 : decode cX2_init 21 = .ok (.i2l, 1) := by decide +kernel
theorem dX2_init_22 : decode cX2_init 22 = .ok (.invokestatic 21, 3) := by decide +kernel
theorem dX2_init_25 : decode cX2_init 25 = .ok (.putfield 25, 3) := by decide +kernel
theorem dX2_init_28 : decode cX2_init 28 = .ok (.aload_n 0, 1) := by decide +kernel
theorem dX2_init_29 : decode cX2_init 29 = .ok (.iload 4, 2) := by decide +kernel
theorem dX2_init_31 : decode cX2_init 31 = .ok (.putfield 28, 3) := by decide +kernel
theorem dX2_init_34 : decode cX2_init 34 = .ok (.aload_n 0, 1) := by decide +kernel
theorem dX2_init_35 : decode cX2_init 35 = .ok (.iload 5, 2) := by decide +kernel
theorem dX2_init_37 : decode cX2_init 37 = .ok (.putfield 31, 3) := by decide +kernel
theorem dX2_init_40 : decode cX2_init 40 = .ok (.aload_n 0, 1) := by decide +kernel
theorem dX2_init_41 : decode cX2_init 41 = .ok (.iload 6, 2) := by decide +kernel
theorem dX2_init_43 : decode cX2_init 43 = .ok (.putfield 34, 3) := by decide +kernel
theorem dX2_init_46 : decode cX2_init 46 = .ok (.aload_n 0, 1) := by decide +kernel
theorem dX2_init_47 : decode cX2_init 47 = .ok (.iload 7, 2) := by decide +kernel
theorem dX2_init_49 : decode cX2_init 49 = .ok (.putfield 37, 3) := by decide +kernel
theorem dX2_init_52 : decode cX2_init 52 = .ok (.aload_n 0, 1) := by decide +kernel
theorem dX2_init_53 : decode cX2_init 53 = .ok (.bipush 8, 2) := by decide +kernel
theorem dX2_init_55 : decode cX2_init 55 = .ok (.newarray .int, 2) := by decide +kernel
theorem dX2_init_57 : decode cX2_init 57 = .ok (.putfield 40, 3) := by decide +kernel
theorem dX2_init_60 : decode cX2_init 60 = .ok (.iconst 0, 1) := by decide +kernel
theorem dX2_init_61 : decode cX2_init 61 = .ok (.istore 8, 2) := by decide +kernel
theorem dX2_init_63 : decode cX2_init 63 = .ok (.iload 8, 2) := by decide +kernel
theorem dX2_init_65 : decode cX2_init 65 = .ok (.aload_n 0, 1) := by decide +kernel
theorem dX2_init_66 : decode cX2_init 66 = .ok (.getfield 40, 3) := by decide +kernel
theorem dX2_init_69 : decode cX2_init 69 = .ok (.arraylength, 1) := by decide +kernel
theorem dX2_init_70 : decode cX2_init 70 = .ok (.if_icmp .ge 42, 3) := by decide +kernel
theorem dX2_init_73 : decode cX2_init 73 = .ok (.aload_n 0, 1) := by decide +kernel
theorem dX2_init_74 : decode cX2_init 74 = .ok (.getfield 40, 3) := by decide +kernel
theorem dX2_init_77 : decode cX2_init 77 = .ok (.iload 8, 2) := by decide +kernel
theorem dX2_init_79 : decode cX2_init 79 = .ok (.iload 8, 2) := by decide +kernel
theorem dX2_init_81 : decode cX2_init 81 = .ok (.aload_n 0, 1) := by decide +kernel
theorem dX2_init_82 : decode cX2_init 82 = .ok (.getfield 25, 3) := by decide +kernel
theorem dX2_init_85 : decode cX2_init 85 = .ok (.if_icmp .ge 17, 3) := by decide +kernel
theorem dX2_init_88 : decode cX2_init 88 = .ok (.iload_n 3, 1) := by decide +kernel
theorem dX2_init_89 : decode cX2_init 89 = .ok (.i2l, 1) := by decide +kernel
theorem dX2_init_90 : decode cX2_init 90 = .ok (.aload_n 0, 1) := by decide +kernel
theorem dX2_init_91 : decode cX2_init 91 = .ok (.getfield 25, 3) := by decide +kernel
theorem dX2_init_94 : decode cX2_init 94 = .ok (.iload 8, 2) := by decide +kernel
theorem dX2_init_96 : decode cX2_init 96 = .ok (.invokestatic 44, 3) := by decide +kernel
theorem dX2_init_99 : decode cX2_init 99 = .ok (.goto 6, 3) := by decide +kernel
theorem dX2_init_102 : decode cX2_init 102 = .ok (.sipush 1023, 3) := by decide +kernel
theorem dX2_init_105 : decode cX2_init 105 = .ok (.iastore, 1) := by decide +kernel
theorem dX2_init_106 : decode cX2_init 106 = .ok (.iinc 8 1, 3) := by decide +kernel
theorem dX2_init_109 : decode cX2_init 109 = .ok (.goto (-46), 3) := by decide +kernel
theorem dX2_init_112 : decode cX2_init 112 = .ok (.iload 4, 2) := by decide +kernel
theorem dX2_init_114 : decode cX2_init 114 = .ok (.ifCond .eq 33, 3) := by decide +kernel
theorem dX2_init_117 : decode cX2_init 117 = .ok (.aload_n 0, 1) := by decide +kernel
theorem dX2_init_118 : decode cX2_init 118 = .ok (.getfield 25, 3) := by decide +kernel
theorem dX2_init_121 : decode cX2_init 121 = .ok (.ifCond .lt 26, 3) := by decide +kernel
theorem dX2_init_124 : decode cX2_init 124 = .ok (.aload_n 0, 1) := by decide +kernel
theorem dX2_init_125 : decode cX2_init 125 = .ok (.getfield 25, 3) := by decide +kernel
theorem dX2_init_128 : decode cX2_init 128 = .ok (.aload_n 0, 1) := by decide +kernel
theorem dX2_init_129 : decode cX2_init 129 = .ok (.getfield 40, 3) := by decide +kernel
theorem dX2_init_132 : decode cX2_init 132 = .ok (.arraylength, 1) := by decide +kernel
theorem dX2_init_133 : decode cX2_init 133 = .ok (.if_icmp .ge 14, 3) := by decide +kernel
theorem dX2_init_136 : decode cX2_init 136 = .ok (.aload_n 0, 1) := by decide +kernel
theorem dX2_init_137 : decode cX2_init 137 = .ok (.getfield 40, 3) := by decide +kernel
theorem dX2_init_140 : decode cX2_init 140 = .ok (.aload_n 0, 1) := by decide +kernel
theorem dX2_init_141 : decode cX2_init 141 = .ok (.getfield 25, 3) := by decide +kernel
theorem dX2_init_144 : decode cX2_init 144 = .ok (.iload 4, 2) := by decide +kernel
theorem dX2_init_146 : decode cX2_init 146 = .ok (.iastore, 1) := by decide +kernel
theorem dX2_init_147 : decode cX2_init 147 = .ok (.aload_n 0, 1) := by decide +kernel
theorem dX2_init_148 : decode cX2_init 148 = .ok (.iconst (-1), 1) := by decide +kernel
theorem dX2_init_149 : decode cX2_init 149 = .ok (.putfield 48, 3) := by decide +kernel
theorem dX2_init_152 : decode cX2_init 152 = .ok (.aload_n 0, 1) := by decide +kernel
theorem dX2_init_153 : decode cX2_init 153 = .ok (.iconst (-1), 1) := by decide +kernel
theorem dX2_init_154 : decode cX2_init 154 = .ok (.putfield 51, 3) := by decide +kernel
theorem dX2_init_157 : decode cX2_init 157 = .ok (.aload_n 0, 1) := by decide +kernel
theorem dX2_init_158 : decode cX2_init 158 = .ok (.iconst (-1), 1) := by decide +kernel
theorem dX2_init_159 : decode cX2_init 159 = .ok (.putfield 54, 3) := by decide +kernel
theorem dX2_init_162 : decode cX2_init 162 = .ok (.aload_n 0, 1) := by decide +kernel
theorem dX2_init_163 : decode cX2_init 163 = .ok (.iconst (-1), 1) := by decide +kernel
theorem dX2_init_164 : decode cX2_init 164 = .ok (.putfield 57, 3) := by decide +kernel
theorem dX2_init_167 : decode cX2_init 167 = .ok (.return_, 1) := by decide +kernel
theorem dX2_tell_0 : decode cX2_tell 0 = .ok (.iload_n 1, 1) := by decide +kernel
theorem dX2_tell_1 : decode cX2_tell 1 = .ok (.tableswitch 96 0 8 #[51, 56, 61, 66, 71, 76, 81, 86, 91], 51) := by decide +kernel
theorem dX2_tell_52 : decode cX2_tell 52 = .ok (.aload_n 0, 1) := by decide +kernel
theorem dX2_tell_53 : decode cX2_tell 53 = .ok (.getfield 9, 3) := by decide +kernel
theorem dX2_tell_56 : decode cX2_tell 56 = .ok (.ireturn, 1) := by decide +kernel
theorem dX2_tell_57 : decode cX2_tell 57 = .ok (.aload_n 0, 1) := by decide +kernel
theorem dX2_tell_58 : decode cX2_tell 58 = .ok (.getfield 15, 3) := by decide +kernel
theorem dX2_tell_61 : decode cX2_tell 61 = .ok (.ireturn, 1) := by decide +kernel
theorem dX2_tell_62 : decode cX2_tell 62 = .ok (.aload_n 0, 1) := by decide +kernel
theorem dX2_tell_63 : decode cX2_tell 63 = .ok (.getfield 18, 3) := by decide +kernel
theorem dX2_tell_66 : decode cX2_tell 66 = .ok (.ireturn, 1) := by decide +kernel
theorem dX2_tell_67 : decode cX2_tell 67 = .ok (.aload_n 0, 1) := by decide +kernel
theorem dX2_tell_68 : decode cX2_tell 68 = .ok (.getfield 28, 3) := by decide +kernel
theorem dX2_tell_71 : decode cX2_tell 71 = .ok (.ireturn, 1) := by decide +kernel
theorem dX2_tell_72 : decode cX2_tell 72 = .ok (.aload_n 0, 1) := by decide +kernel
theorem dX2_tell_73 : decode cX2_tell 73 = .ok (.getfield 31, 3) := by decide +kernel
theorem dX2_tell_76 : decode cX2_tell 76 = .ok (.ireturn, 1) := by decide +kernel
theorem dX2_tell_77 : decode cX2_tell 77 = .ok (.aload_n 0, 1) := by decide +kernel
theorem dX2_tell_78 : decode cX2_tell 78 = .ok (.getfield 34, 3) := by decide +kernel
theorem dX2_tell_81 : decode cX2_tell 81 = .ok (.ireturn, 1) := by decide +kernel
theorem dX2_tell_82 : decode cX2_tell 82 = .ok (.aload_n 0, 1) := by decide +kernel
theorem dX2_tell_83 : decode cX2_tell 83 = .ok (.getfield 37, 3) := by decide +kernel
theorem dX2_tell_86 : decode cX2_tell 86 = .ok (.ireturn, 1) := by decide +kernel
theorem dX2_tell_87 : decode cX2_tell 87 = .ok (.aload_n 0, 1) := by decide +kernel
theorem dX2_tell_88 : decode cX2_tell 88 = .ok (.getfield 51, 3) := by decide +kernel
theorem dX2_tell_91 : decode cX2_tell 91 = .ok (.ireturn, 1) := by decide +kernel
theorem dX2_tell_92 : decode cX2_tell 92 = .ok (.aload_n 0, 1) := by decide +kernel
theorem dX2_tell_93 : decode cX2_tell 93 = .ok (.getfield 54, 3) := by decide +kernel
theorem dX2_tell_96 : decode cX2_tell 96 = .ok (.ireturn, 1) := by decide +kernel
theorem dX2_tell_97 : decode cX2_tell 97 = .ok (.iconst (-1), 1) := by decide +kernel
theorem dX2_tell_98 : decode cX2_tell 98 = .ok (.ireturn, 1) := by decide +kernel
theorem dX2_isInForce_0 : decode cX2_isInForce 0 = .ok (.iload_n 1, 1) := by decide +kernel
theorem dX2_isInForce_1 : decode cX2_isInForce 1 = .ok (.aload_n 0, 1) := by decide +kernel
theorem dX2_isInForce_2 : decode cX2_isInForce 2 = .ok (.getfield 37, 3) := by decide +kernel
theorem dX2_isInForce_5 : decode cX2_isInForce 5 = .ok (.if_icmp .lt 23, 3) := by decide +kernel
theorem dX2_isInForce_8 : decode cX2_isInForce 8 = .ok (.aload_n 0, 1) := by decide +kernel
theorem dX2_isInForce_9 : decode cX2_isInForce 9 = .ok (.getfield 51, 3) := by decide +kernel
theorem dX2_isInForce_12 : decode cX2_isInForce 12 = .ok (.iconst (-1), 1) := by decide +kernel
theorem dX2_isInForce_13 : decode cX2_isInForce 13 = .ok (.if_icmp .eq 11, 3) := by decide +kernel
theorem dX2_isInForce_16 : decode cX2_isInForce 16 = .ok (.iload_n 1, 1) := by decide +kernel
theorem dX2_isInForce_17 : decode cX2_isInForce 17 = .ok (.aload_n 0, 1) := by decide +kernel
theorem dX2_isInForce_18 : decode cX2_isInForce 18 = .ok (.getfield 51, 3) := by decide +kernel
theorem dX2_isInForce_21 : decode cX2_isInForce 21 = .ok (.if_icmp .ge 7, 3) := by decide +kernel
theorem dX2_isInForce_24 : decode cX2_isInForce 24 = .ok (.iconst 1, 1) := by decide +kernel
theorem dX2_isInForce_25 : decode cX2_isInForce 25 = .ok (.goto 4, 3) := by decide +kernel
theorem dX2_isInForce_28 : decode cX2_isInForce 28 = .ok (.iconst 0, 1) := by decide +kernel
theorem dX2_isInForce_29 : decode cX2_isInForce 29 = .ok (.ireturn, 1) := by decide +kernel
theorem dX2_isInside_0 : decode cX2_isInside 0 = .ok (.iload_n 1, 1) := by decide +kernel
theorem dX2_isInside_1 : decode cX2_isInside 1 = .ok (.aload_n 0, 1) := by decide +kernel
theorem dX2_isInside_2 : decode cX2_isInside 2 = .ok (.getfield 37, 3) := by decide +kernel
theorem dX2_isInside_5 : decode cX2_isInside 5 = .ok (.if_icmp .le 23, 3) := by decide +kernel
theorem dX2_isInside_8 : decode cX2_isInside 8 = .ok (.aload_n 0, 1) := by decide +kernel
theorem dX2_isInside_9 : decode cX2_isInside 9 = .ok (.getfield 51, 3) := by decide +kernel
theorem dX2_isInside_12 : decode cX2_isInside 12 = .ok (.iconst (-1), 1) := by decide +kernel
theorem dX2_isInside_13 : decode cX2_isInside 13 = .ok (.if_icmp .eq 11, 3) := by decide +kernel
theorem dX2_isInside_16 : decode cX2_isInside 16 = .ok (.iload_n 1, 1) := by decide +kernel
theorem dX2_isInside_17 : decode cX2_isInside 17 = .ok (.aload_n 0, 1) := by decide +kernel
theorem dX2_isInside_18 : decode cX2_isInside 18 = .ok (.getfield 51, 3) := by decide +kernel
theorem dX2_isInside_21 : decode cX2_isInside 21 = .ok (.if_icmp .ge 7, 3) := by decide +kernel
theorem dX2_isInside_24 : decode cX2_isInside 24 = .ok (.iconst 1, 1) := by decide +kernel
theorem dX2_isInside_25 : decode cX2_isInside 25 = .ok (.goto 4, 3) := by decide +kernel
theorem dX2_isInside_28 : decode cX2_isInside 28 = .ok (.iconst 0, 1) := by decide +kernel
theorem dX2_isInside_29 : decode cX2_isInside 29 = .ok (.ireturn, 1) := by decide +kernel
theorem dX2_placesBehind_0 : decode cX2_placesBehind 0 = .ok (.aload_n 0, 1) := by decide +kernel
theorem dX2_placesBehind_1 : decode cX2_placesBehind 1 = .ok (.getfield 31, 3) := by decide +kernel
theorem dX2_placesBehind_4 : decode cX2_placesBehind 4 = .ok (.aload_n 0, 1) := by decide +kernel
theorem dX2_placesBehind_5 : decode cX2_placesBehind 5 = .ok (.getfield 25, 3) := by decide +kernel
theorem dX2_placesBehind_8 : decode cX2_placesBehind 8 = .ok (.isub, 1) := by decide +kernel
theorem dX2_placesBehind_9 : decode cX2_placesBehind 9 = .ok (.ireturn, 1) := by decide +kernel
theorem dX2_figuresAt_0 : decode cX2_figuresAt 0 = .ok (.iload_n 1, 1) := by decide +kernel
theorem dX2_figuresAt_1 : decode cX2_figuresAt 1 = .ok (.ifCond .lt 21, 3) := by decide +kernel
theorem dX2_figuresAt_4 : decode cX2_figuresAt 4 = .ok (.iload_n 1, 1) := by decide +kernel
theorem dX2_figuresAt_5 : decode cX2_figuresAt 5 = .ok (.aload_n 0, 1) := by decide +kernel
theorem dX2_figuresAt_6 : decode cX2_figuresAt 6 = .ok (.getfield 40, 3) := by decide +kernel
theorem dX2_figuresAt_9 : decode cX2_figuresAt 9 = .ok (.arraylength, 1) := by decide +kernel
theorem dX2_figuresAt_10 : decode cX2_figuresAt 10 = .ok (.if_icmp .ge 12, 3) := by decide +kernel
theorem dX2_figuresAt_13 : decode cX2_figuresAt 13 = .ok (.aload_n 0, 1) := by decide +kernel
theorem dX2_figuresAt_14 : decode cX2_figuresAt 14 = .ok (.getfield 40, 3) := by decide +kernel
theorem dX2_figuresAt_17 : decode cX2_figuresAt 17 = .ok (.iload_n 1, 1) := by decide +kernel
theorem dX2_figuresAt_18 : decode cX2_figuresAt 18 = .ok (.iaload, 1) := by decide +kernel
theorem dX2_figuresAt_19 : decode cX2_figuresAt 19 = .ok (.goto 6, 3) := by decide +kernel
theorem dX2_figuresAt_22 : decode cX2_figuresAt 22 = .ok (.sipush 1023, 3) := by decide +kernel
theorem dX2_figuresAt_25 : decode cX2_figuresAt 25 = .ok (.ireturn, 1) := by decide +kernel
theorem dX2_fits_0 : decode cX2_fits 0 = .ok (.iload_n 3, 1) := by decide +kernel
theorem dX2_fits_1 : decode cX2_fits 1 = .ok (.aload_n 0, 1) := by decide +kernel
theorem dX2_fits_2 : decode cX2_fits 2 = .ok (.getfield 34, 3) := by decide +kernel
theorem dX2_fits_5 : decode cX2_fits 5 = .ok (.if_icmp .le 5, 3) := by decide +kernel
theorem dX2_fits_8 : decode cX2_fits 8 = .ok (.iconst 0, 1) := by decide +kernel
theorem dX2_fits_9 : decode cX2_fits 9 = .ok (.ireturn, 1) := by decide +kernel
theorem dX2_fits_10 : decode cX2_fits 10 = .ok (.iload_n 3, 1) := by decide +kernel
theorem dX2_fits_11 : decode cX2_fits 11 = .ok (.aload_n 0, 1) := by decide +kernel
theorem dX2_fits_12 : decode cX2_fits 12 = .ok (.getfield 25, 3) := by decide +kernel
theorem dX2_fits_15 : decode cX2_fits 15 = .ok (.invokestatic 60, 3) := by decide +kernel
theorem dX2_fits_18 : decode cX2_fits 18 = .ok (.istore 4, 2) := by decide +kernel
theorem dX2_fits_20 : decode cX2_fits 20 = .ok (.lload_n 1, 1) := by decide +kernel
theorem dX2_fits_21 : decode cX2_fits 21 = .ok (.iload_n 3, 1) := by decide +kernel
theorem dX2_fits_22 : decode cX2_fits 22 = .ok (.iload 4, 2) := by decide +kernel
theorem dX2_fits_24 : decode cX2_fits 24 = .ok (.isub, 1) := by decide +kernel
theorem dX2_fits_25 : decode cX2_fits 25 = .ok (.invokestatic 66, 3) := by decide +kernel
theorem dX2_fits_28 : decode cX2_fits 28 = .ok (.aload_n 0, 1) := by decide +kernel
theorem dX2_fits_29 : decode cX2_fits 29 = .ok (.getfield 18, 3) := by decide +kernel
theorem dX2_fits_32 : decode cX2_fits 32 = .ok (.i2l, 1) := by decide +kernel
theorem dX2_fits_33 : decode cX2_fits 33 = .ok (.aload_n 0, 1) := by decide +kernel
theorem dX2_fits_34 : decode cX2_fits 34 = .ok (.getfield 25, 3) := by decide +kernel
theorem dX2_fits_37 : decode cX2_fits 37 = .ok (.iload 4, 2) := by decide +kernel
theorem dX2_fits_39 : decode cX2_fits 39 = .ok (.isub, 1) := by decide +kernel
theorem dX2_fits_40 : decode cX2_fits 40 = .ok (.invokestatic 66, 3) := by decide +kernel
theorem dX2_fits_43 : decode cX2_fits 43 = .ok (.lcmp, 1) := by decide +kernel
theorem dX2_fits_44 : decode cX2_fits 44 = .ok (.ifCond .eq 5, 3) := by decide +kernel
theorem dX2_fits_47 : decode cX2_fits 47 = .ok (.iconst 0, 1) := by decide +kernel
theorem dX2_fits_48 : decode cX2_fits 48 = .ok (.ireturn, 1) := by decide +kernel
theorem dX2_fits_49 : decode cX2_fits 49 = .ok (.iload_n 3, 1) := by decide +kernel
theorem dX2_fits_50 : decode cX2_fits 50 = .ok (.aload_n 0, 1) := by decide +kernel
theorem dX2_fits_51 : decode cX2_fits 51 = .ok (.getfield 25, 3) := by decide +kernel
theorem dX2_fits_54 : decode cX2_fits 54 = .ok (.if_icmp .le 24, 3) := by decide +kernel
theorem dX2_fits_57 : decode cX2_fits 57 = .ok (.aload_n 0, 1) := by decide +kernel
theorem dX2_fits_58 : decode cX2_fits 58 = .ok (.aload_n 0, 1) := by decide +kernel
theorem dX2_fits_59 : decode cX2_fits 59 = .ok (.getfield 25, 3) := by decide +kernel
theorem dX2_fits_62 : decode cX2_fits 62 = .ok (.invokevirtual 70, 3) := by decide +kernel
theorem dX2_fits_65 : decode cX2_fits 65 = .ok (.lload_n 1, 1) := by decide +kernel
theorem dX2_fits_66 : decode cX2_fits 66 = .ok (.iload_n 3, 1) := by decide +kernel
theorem dX2_fits_67 : decode cX2_fits 67 = .ok (.aload_n 0, 1) := by decide +kernel
theorem dX2_fits_68 : decode cX2_fits 68 = .ok (.getfield 25, 3) := by decide +kernel
theorem dX2_fits_71 : decode cX2_fits 71 = .ok (.invokestatic 44, 3) := by decide +kernel
theorem dX2_fits_74 : decode cX2_fits 74 = .ok (.iand, 1) := by decide +kernel
theorem dX2_fits_75 : decode cX2_fits 75 = .ok (.ifCond .eq 7, 3) := by decide +kernel
theorem dX2_fits_78 : decode cX2_fits 78 = .ok (.iconst 1, 1) := by decide +kernel
theorem dX2_fits_79 : decode cX2_fits 79 = .ok (.goto 4, 3) := by decide +kernel
theorem dX2_fits_82 : decode cX2_fits 82 = .ok (.iconst 0, 1) := by decide +kernel
theorem dX2_fits_83 : decode cX2_fits 83 = .ok (.ireturn, 1) := by decide +kernel
theorem dX2_hasNumber_0 : decode cX2_hasNumber 0 = .ok (.iload_n 3, 1) := by decide +kernel
theorem dX2_hasNumber_1 : decode cX2_hasNumber 1 = .ok (.aload_n 0, 1) := by decide +kernel
theorem dX2_hasNumber_2 : decode cX2_hasNumber 2 = .ok (.getfield 31, 3) := by decide +kernel
theorem dX2_hasNumber_5 : decode cX2_hasNumber 5 = .ok (.if_icmp .lt 16, 3) := by decide +kernel
theorem dX2_hasNumber_8 : decode cX2_hasNumber 8 = .ok (.aload_n 0, 1) := by decide +kernel
theorem dX2_hasNumber_9 : decode cX2_hasNumber 9 = .ok (.lload_n 1, 1) := by decide +kernel
theorem dX2_hasNumber_10 : decode cX2_hasNumber 10 = .ok (.iload_n 3, 1) := by decide +kernel
theorem dX2_hasNumber_11 : decode cX2_hasNumber 11 = .ok (.invokevirtual 74, 3) := by decide +kernel
theorem dX2_hasNumber_14 : decode cX2_hasNumber 14 = .ok (.ifCond .eq 7, 3) := by decide +kernel
theorem dX2_hasNumber_17 : decode cX2_hasNumber 17 = .ok (.iconst 1, 1) := by decide +kernel
theorem dX2_hasNumber_18 : decode cX2_hasNumber 18 = .ok (.goto 4, 3) := by decide +kernel
theorem dX2_hasNumber_21 : decode cX2_hasNumber 21 = .ok (.iconst 0, 1) := by decide +kernel
theorem dX2_hasNumber_22 : decode cX2_hasNumber 22 = .ok (.ireturn, 1) := by decide +kernel
theorem dX2_hasBehind_0 : decode cX2_hasBehind 0 = .ok (.iload_n 1, 1) := by decide +kernel
theorem dX2_hasBehind_1 : decode cX2_hasBehind 1 = .ok (.i2l, 1) := by decide +kernel
theorem dX2_hasBehind_2 : decode cX2_hasBehind 2 = .ok (.invokestatic 21, 3) := by decide +kernel
theorem dX2_hasBehind_5 : decode cX2_hasBehind 5 = .ok (.istore_n 2, 1) := by decide +kernel
theorem dX2_hasBehind_6 : decode cX2_hasBehind 6 = .ok (.iload_n 2, 1) := by decide +kernel
theorem dX2_hasBehind_7 : decode cX2_hasBehind 7 = .ok (.ifCond .le 30, 3) := by decide +kernel
theorem dX2_hasBehind_10 : decode cX2_hasBehind 10 = .ok (.iload_n 2, 1) := by decide +kernel
theorem dX2_hasBehind_11 : decode cX2_hasBehind 11 = .ok (.aload_n 0, 1) := by decide +kernel
theorem dX2_hasBehind_12 : decode cX2_hasBehind 12 = .ok (.invokevirtual 78, 3) := by decide +kernel
theorem dX2_hasBehind_15 : decode cX2_hasBehind 15 = .ok (.if_icmp .ne 22, 3) := by decide +kernel
theorem dX2_hasBehind_18 : decode cX2_hasBehind 18 = .ok (.aload_n 0, 1) := by decide +kernel
theorem dX2_hasBehind_19 : decode cX2_hasBehind 19 = .ok (.getfield 28, 3) := by decide +kernel
theorem dX2_hasBehind_22 : decode cX2_hasBehind 22 = .ok (.iload_n 1, 1) := by decide +kernel
theorem dX2_hasBehind_23 : decode cX2_hasBehind 23 = .ok (.i2l, 1) := by decide +kernel
theorem dX2_hasBehind_24 : decode cX2_hasBehind 24 = .ok (.iload_n 2, 1) := by decide +kernel
theorem dX2_hasBehind_25 : decode cX2_hasBehind 25 = .ok (.iconst 0, 1) := by decide +kernel
theorem dX2_hasBehind_26 : decode cX2_hasBehind 26 = .ok (.invokestatic 44, 3) := by decide +kernel
theorem dX2_hasBehind_29 : decode cX2_hasBehind 29 = .ok (.iand, 1) := by decide +kernel
theorem dX2_hasBehind_30 : decode cX2_hasBehind 30 = .ok (.ifCond .eq 7, 3) := by decide +kernel
theorem dX2_hasBehind_33 : decode cX2_hasBehind 33 = .ok (.iconst 1, 1) := by decide +kernel
theorem dX2_hasBehind_34 : decode cX2_hasBehind 34 = .ok (.goto 4, 3) := by decide +kernel
theorem dX2_hasBehind_37 : decode cX2_hasBehind 37 = .ok (.iconst 0, 1) := by decide +kernel
theorem dX2_hasBehind_38 : decode cX2_hasBehind 38 = .ok (.ireturn, 1) := by decide +kernel
theorem dX2_numberWith_0 : decode cX2_numberWith 0 = .ok (.aload_n 0, 1) := by decide +kernel
theorem dX2_numberWith_1 : decode cX2_numberWith 1 = .ok (.invokevirtual 78, 3) := by decide +kernel
theorem dX2_numberWith_4 : decode cX2_numberWith 4 = .ok (.invokestatic 82, 3) := by decide +kernel
theorem dX2_numberWith_7 : decode cX2_numberWith 7 = .ok (.lstore_n 2, 1) := by decide +kernel
theorem dX2_numberWith_8 : decode cX2_numberWith 8 = .ok (.aload_n 0, 1) := by decide +kernel
theorem dX2_numberWith_9 : decode cX2_numberWith 9 = .ok (.getfield 18, 3) := by decide +kernel
theorem dX2_numberWith_12 : decode cX2_numberWith 12 = .ok (.i2l, 1) := by decide +kernel
theorem dX2_numberWith_13 : decode cX2_numberWith 13 = .ok (.lload_n 2, 1) := by decide +kernel
theorem dX2_numberWith_14 : decode cX2_numberWith 14 = .ok (.lmul, 1) := by decide +kernel
theorem dX2_numberWith_15 : decode cX2_numberWith 15 = .ok (.iload_n 1, 1) := by decide +kernel
theorem dX2_numberWith_16 : decode cX2_numberWith 16 = .ok (.i2l, 1) := by decide +kernel
theorem dX2_numberWith_17 : decode cX2_numberWith 17 = .ok (.lload_n 2, 1) := by decide +kernel
theorem dX2_numberWith_18 : decode cX2_numberWith 18 = .ok (.lsub, 1) := by decide +kernel
theorem dX2_numberWith_19 : decode cX2_numberWith 19 = .ok (.ladd, 1) := by decide +kernel
theorem dX2_numberWith_20 : decode cX2_numberWith 20 = .ok (.lreturn, 1) := by decide +kernel
theorem dX2_clashesWith_0 : decode cX2_clashesWith 0 = .ok (.iconst 0, 1) := by decide +kernel
theorem dX2_clashesWith_1 : decode cX2_clashesWith 1 = .ok (.istore_n 2, 1) := by decide +kernel
theorem dX2_clashesWith_2 : decode cX2_clashesWith 2 = .ok (.iload_n 2, 1) := by decide +kernel
theorem dX2_clashesWith_3 : decode cX2_clashesWith 3 = .ok (.bipush 7, 2) := by decide +kernel
theorem dX2_clashesWith_5 : decode cX2_clashesWith 5 = .ok (.if_icmp .gt 25, 3) := by decide +kernel
theorem dX2_clashesWith_8 : decode cX2_clashesWith 8 = .ok (.aload_n 0, 1) := by decide +kernel
theorem dX2_clashesWith_9 : decode cX2_clashesWith 9 = .ok (.iload_n 2, 1) := by decide +kernel
theorem dX2_clashesWith_10 : decode cX2_clashesWith 10 = .ok (.invokevirtual 70, 3) := by decide +kernel
theorem dX2_clashesWith_13 : decode cX2_clashesWith 13 = .ok (.aload_n 1, 1) := by decide +kernel
theorem dX2_clashesWith_14 : decode cX2_clashesWith 14 = .ok (.iload_n 2, 1) := by decide +kernel
theorem dX2_clashesWith_15 : decode cX2_clashesWith 15 = .ok (.invokevirtual 70, 3) := by decide +kernel
theorem dX2_clashesWith_18 : decode cX2_clashesWith 18 = .ok (.iand, 1) := by decide +kernel
theorem dX2_clashesWith_19 : decode cX2_clashesWith 19 = .ok (.ifCond .ne 5, 3) := by decide +kernel
theorem dX2_clashesWith_22 : decode cX2_clashesWith 22 = .ok (.iconst 0, 1) := by decide +kernel
theorem dX2_clashesWith_23 : decode cX2_clashesWith 23 = .ok (.ireturn, 1) := by decide +kernel
theorem dX2_clashesWith_24 : decode cX2_clashesWith 24 = .ok (.iinc 2 1, 3) := by decide +kernel
theorem dX2_clashesWith_27 : decode cX2_clashesWith 27 = .ok (.goto (-25), 3) := by decide +kernel
theorem dX2_clashesWith_30 : decode cX2_clashesWith 30 = .ok (.iconst 1, 1) := by decide +kernel
theorem dX2_clashesWith_31 : decode cX2_clashesWith 31 = .ok (.ireturn, 1) := by decide +kernel
theorem dX2_noteClash_0 : decode cX2_noteClash 0 = .ok (.iload_n 1, 1) := by decide +kernel
theorem dX2_noteClash_1 : decode cX2_noteClash 1 = .ok (.bipush 64, 2) := by decide +kernel
theorem dX2_noteClash_3 : decode cX2_noteClash 3 = .ok (.if_icmp .ge 18, 3) := by decide +kernel
theorem dX2_noteClash_6 : decode cX2_noteClash 6 = .ok (.aload_n 0, 1) := by decide +kernel
theorem dX2_noteClash_7 : decode cX2_noteClash 7 = .ok (.dup, 1) := by decide +kernel
theorem dX2_noteClash_8 : decode cX2_noteClash 8 = .ok (.getfield 86, 3) := by decide +kernel
theorem dX2_noteClash_11 : decode cX2_noteClash 11 = .ok (.lconst 1, 1) := by decide +kernel
theorem dX2_noteClash_12 : decode cX2_noteClash 12 = .ok (.iload_n 1, 1) := by decide +kernel
theorem dX2_noteClash_13 : decode cX2_noteClash 13 = .ok (.lshl, 1) := by decide +kernel
theorem dX2_noteClash_14 : decode cX2_noteClash 14 = .ok (.lor, 1) := by decide +kernel
theorem dX2_noteClash_15 : decode cX2_noteClash 15 = .ok (.putfield 86, 3) := by decide +kernel
theorem dX2_noteClash_18 : decode cX2_noteClash 18 = .ok (.goto 18, 3) := by decide +kernel
theorem dX2_noteClash_21 : decode cX2_noteClash 21 = .ok (.aload_n 0, 1) := by decide +kernel
theorem dX2_noteClash_22 : decode cX2_noteClash 22 = .ok (.dup, 1) := by decide +kernel
theorem dX2_noteClash_23 : decode cX2_noteClash 23 = .ok (.getfield 90, 3) := by decide +kernel
theorem dX2_noteClash_26 : decode cX2_noteClash 26 = .ok (.lconst 1, 1) := by decide +kernel
theorem dX2_noteClash_27 : decode cX2_noteClash 27 = .ok (.iload_n 1, 1) := by decide +kernel
theorem dX2_noteClash_28 : decode cX2_noteClash 28 = .ok (.bipush 64, 2) := by decide +kernel
theorem dX2_noteClash_30 : decode cX2_noteClash 30 = .ok (.isub, 1) := by decide +kernel
theorem dX2_noteClash_31 : decode cX2_noteClash 31 = .ok (.lshl, 1) := by decide +kernel
theorem dX2_noteClash_32 : decode cX2_noteClash 32 = .ok (.lor, 1) := by decide +kernel
theorem dX2_noteClash_33 : decode cX2_noteClash 33 = .ok (.putfield 90, 3) := by decide +kernel
theorem dX2_noteClash_36 : decode cX2_noteClash 36 = .ok (.return_, 1) := by decide +kernel
theorem dX2_hasClash_0 : decode cX2_hasClash 0 = .ok (.iload_n 1, 1) := by decide +kernel
theorem dX2_hasClash_1 : decode cX2_hasClash 1 = .ok (.bipush 64, 2) := by decide +kernel
theorem dX2_hasClash_3 : decode cX2_hasClash 3 = .ok (.if_icmp .ge 10, 3) := by decide +kernel
theorem dX2_hasClash_6 : decode cX2_hasClash 6 = .ok (.aload_n 0, 1) := by decide +kernel
theorem dX2_hasClash_7 : decode cX2_hasClash 7 = .ok (.getfield 86, 3) := by decide +kernel
theorem dX2_hasClash_10 : decode cX2_hasClash 10 = .ok (.goto 7, 3) := by decide +kernel
theorem dX2_hasClash_13 : decode cX2_hasClash 13 = .ok (.aload_n 0, 1) := by decide +kernel
theorem dX2_hasClash_14 : decode cX2_hasClash 14 = .ok (.getfield 90, 3) := by decide +kernel
theorem dX2_hasClash_17 : decode cX2_hasClash 17 = .ok (.lstore_n 2, 1) := by decide +kernel
theorem dX2_hasClash_18 : decode cX2_hasClash 18 = .ok (.lload_n 2, 1) := by decide +kernel
theorem dX2_hasClash_19 : decode cX2_hasClash 19 = .ok (.iload_n 1, 1) := by decide +kernel
theorem dX2_hasClash_20 : decode cX2_hasClash 20 = .ok (.bipush 63, 2) := by decide +kernel
theorem dX2_hasClash_22 : decode cX2_hasClash 22 = .ok (.iand, 1) := by decide +kernel
theorem dX2_hasClash_23 : decode cX2_hasClash 23 = .ok (.lshr, 1) := by decide +kernel
theorem dX2_hasClash_24 : decode cX2_hasClash 24 = .ok (.lconst 1, 1) := by decide +kernel
theorem dX2_hasClash_25 : decode cX2_hasClash 25 = .ok (.land, 1) := by decide +kernel
theorem dX2_hasClash_26 : decode cX2_hasClash 26 = .ok (.lconst 0, 1) := by decide +kernel
theorem dX2_hasClash_27 : decode cX2_hasClash 27 = .ok (.lcmp, 1) := by decide +kernel
theorem dX2_hasClash_28 : decode cX2_hasClash 28 = .ok (.ifCond .eq 7, 3) := by decide +kernel
theorem dX2_hasClash_31 : decode cX2_hasClash 31 = .ok (.iconst 1, 1) := by decide +kernel
theorem dX2_hasClash_32 : decode cX2_hasClash 32 = .ok (.goto 4, 3) := by decide +kernel
theorem dX2_hasClash_35 : decode cX2_hasClash 35 = .ok (.iconst 0, 1) := by decide +kernel
theorem dX2_hasClash_36 : decode cX2_hasClash 36 = .ok (.ireturn, 1) := by decide +kernel
theorem dX2_followedTo_0 : decode cX2_followedTo 0 = .ok (.aload_n 0, 1) := by decide +kernel
theorem dX2_followedTo_1 : decode cX2_followedTo 1 = .ok (.astore_n 3, 1) := by decide +kernel
theorem dX2_followedTo_2 : decode cX2_followedTo 2 = .ok (.iconst 0, 1) := by decide +kernel
theorem dX2_followedTo_3 : decode cX2_followedTo 3 = .ok (.istore 4, 2) := by decide +kernel
theorem dX2_followedTo_5 : decode cX2_followedTo 5 = .ok (.iload 4, 2) := by decide +kernel
theorem dX2_followedTo_7 : decode cX2_followedTo 7 = .ok (.bipush 120, 2) := by decide +kernel
theorem dX2_followedTo_9 : decode cX2_followedTo 9 = .ok (.if_icmp .ge 37, 3) := by decide +kernel
theorem dX2_followedTo_12 : decode cX2_followedTo 12 = .ok (.aload_n 3, 1) := by decide +kernel
theorem dX2_followedTo_13 : decode cX2_followedTo 13 = .ok (.ifnull 33, 3) := by decide +kernel
theorem dX2_followedTo_16 : decode cX2_followedTo 16 = .ok (.aload_n 3, 1) := by decide +kernel
theorem dX2_followedTo_17 : decode cX2_followedTo 17 = .ok (.getfield 51, 3) := by decide +kernel
theorem dX2_followedTo_20 : decode cX2_followedTo 20 = .ok (.iconst (-1), 1) := by decide +kernel
theorem dX2_followedTo_21 : decode cX2_followedTo 21 = .ok (.if_icmp .eq 11, 3) := by decide +kernel
theorem dX2_followedTo_24 : decode cX2_followedTo 24 = .ok (.iload_n 2, 1) := by decide +kernel
theorem dX2_followedTo_25 : decode cX2_followedTo 25 = .ok (.aload_n 3, 1) := by decide +kernel
theorem dX2_followedTo_26 : decode cX2_followedTo 26 = .ok (.getfield 51, 3) := by decide +kernel
theorem dX2_followedTo_29 : decode cX2_followedTo 29 = .ok (.if_icmp .ge 5, 3) := by decide +kernel
theorem dX2_followedTo_32 : decode cX2_followedTo 32 = .ok (.aload_n 3, 1) := by decide +kernel
theorem dX2_followedTo_33 : decode cX2_followedTo 33 = .ok (.areturn, 1) := by decide +kernel
theorem dX2_followedTo_34 : decode cX2_followedTo 34 = .ok (.aload_n 3, 1) := by decide +kernel
theorem dX2_followedTo_35 : decode cX2_followedTo 35 = .ok (.iload_n 1, 1) := by decide +kernel
theorem dX2_followedTo_36 : decode cX2_followedTo 36 = .ok (.invokevirtual 93, 3) := by decide +kernel
theorem dX2_followedTo_39 : decode cX2_followedTo 39 = .ok (.astore_n 3, 1) := by decide +kernel
theorem dX2_followedTo_40 : decode cX2_followedTo 40 = .ok (.iinc 4 1, 3) := by decide +kernel
theorem dX2_followedTo_43 : decode cX2_followedTo 43 = .ok (.goto (-38), 3) := by decide +kernel
theorem dX2_followedTo_46 : decode cX2_followedTo 46 = .ok (.aconst_null, 1) := by decide +kernel
theorem dX2_followedTo_47 : decode cX2_followedTo 47 = .ok (.areturn, 1) := by decide +kernel
theorem dX2_nextFor_0 : decode cX2_nextFor 0 = .ok (.aload_n 0, 1) := by decide +kernel
theorem dX2_nextFor_1 : decode cX2_nextFor 1 = .ok (.getfield 97, 3) := by decide +kernel
theorem dX2_nextFor_4 : decode cX2_nextFor 4 = .ok (.ifnull 14, 3) := by decide +kernel
theorem dX2_nextFor_7 : decode cX2_nextFor 7 = .ok (.aload_n 0, 1) := by decide +kernel
theorem dX2_nextFor_8 : decode cX2_nextFor 8 = .ok (.getfield 51, 3) := by decide +kernel
theorem dX2_nextFor_11 : decode cX2_nextFor 11 = .ok (.aload_n 0, 1) := by decide +kernel
theorem dX2_nextFor_12 : decode cX2_nextFor 12 = .ok (.getfield 57, 3) := by decide +kernel
theorem dX2_nextFor_15 : decode cX2_nextFor 15 = .ok (.if_icmp .eq 5, 3) := by decide +kernel
theorem dX2_nextFor_18 : decode cX2_nextFor 18 = .ok (.aconst_null, 1) := by decide +kernel
theorem dX2_nextFor_19 : decode cX2_nextFor 19 = .ok (.areturn, 1) := by decide +kernel
theorem dX2_nextFor_20 : decode cX2_nextFor 20 = .ok (.aload_n 0, 1) := by decide +kernel
theorem dX2_nextFor_21 : decode cX2_nextFor 21 = .ok (.getfield 97, 3) := by decide +kernel
theorem dX2_nextFor_24 : decode cX2_nextFor 24 = .ok (.getfield 28, 3) := by decide +kernel
theorem dX2_nextFor_27 : decode cX2_nextFor 27 = .ok (.iload_n 1, 1) := by decide +kernel
theorem dX2_nextFor_28 : decode cX2_nextFor 28 = .ok (.iand, 1) := by decide +kernel
theorem dX2_nextFor_29 : decode cX2_nextFor 29 = .ok (.ifCond .eq 10, 3) := by decide +kernel
theorem dX2_nextFor_32 : decode cX2_nextFor 32 = .ok (.aload_n 0, 1) := by decide +kernel
theorem dX2_nextFor_33 : decode cX2_nextFor 33 = .ok (.getfield 97, 3) := by decide +kernel
theorem dX2_nextFor_36 : decode cX2_nextFor 36 = .ok (.goto 7, 3) := by decide +kernel
theorem dX2_nextFor_39 : decode cX2_nextFor 39 = .ok (.aload_n 0, 1) := by decide +kernel
theorem dX2_nextFor_40 : decode cX2_nextFor 40 = .ok (.getfield 101, 3) := by decide +kernel
theorem dX2_nextFor_43 : decode cX2_nextFor 43 = .ok (.areturn, 1) := by decide +kernel
theorem dX2_roomOn_0 : decode cX2_roomOn 0 = .ok (.aload_n 0, 1) := by decide +kernel
theorem dX2_roomOn_1 : decode cX2_roomOn 1 = .ok (.iload_n 1, 1) := by decide +kernel
theorem dX2_roomOn_2 : decode cX2_roomOn 2 = .ok (.invokevirtual 104, 3) := by decide +kernel
theorem dX2_roomOn_5 : decode cX2_roomOn 5 = .ok (.ifCond .eq 24, 3) := by decide +kernel
theorem dX2_roomOn_8 : decode cX2_roomOn 8 = .ok (.aload_n 0, 1) := by decide +kernel
theorem dX2_roomOn_9 : decode cX2_roomOn 9 = .ok (.getfield 28, 3) := by decide +kernel
theorem dX2_roomOn_12 : decode cX2_roomOn 12 = .ok (.invokestatic 108, 3) := by decide +kernel
theorem dX2_roomOn_15 : decode cX2_roomOn 15 = .ok (.i2l, 1) := by decide +kernel
theorem dX2_roomOn_16 : decode cX2_roomOn 16 = .ok (.aload_n 0, 1) := by decide +kernel
theorem dX2_roomOn_17 : decode cX2_roomOn 17 = .ok (.invokevirtual 78, 3) := by decide +kernel
theorem dX2_roomOn_20 : decode cX2_roomOn 20 = .ok (.iconst 1, 1) := by decide +kernel
theorem dX2_roomOn_21 : decode cX2_roomOn 21 = .ok (.isub, 1) := by decide +kernel
theorem dX2_roomOn_22 : decode cX2_roomOn 22 = .ok (.invokestatic 82, 3) := by decide +kernel
theorem dX2_roomOn_25 : decode cX2_roomOn 25 = .ok (.lmul, 1) := by decide +kernel
theorem dX2_roomOn_26 : decode cX2_roomOn 26 = .ok (.goto 4, 3) := by decide +kernel
theorem dX2_roomOn_29 : decode cX2_roomOn 29 = .ok (.lconst 0, 1) := by decide +kernel
theorem dX2_roomOn_30 : decode cX2_roomOn 30 = .ok (.lreturn, 1) := by decide +kernel
theorem dX3_init_0 : decode cX3_init 0 = .ok (.aload_n 0, 1) := by decide +kernel
theorem dX3_init_1 : decode cX3_init 1 = .ok (.invokespecial 3, 3) := by decide +kernel
theorem dX3_init_4 : decode cX3_init 4 = .ok (.aload_n 0, 1) := by decide +kernel
theorem dX3_init_5 : decode cX3_init 5 = .ok (.aload_n 1, 1) := by decide +kernel
theorem dX3_init_6 : decode cX3_init 6 = .ok (.putfield 9, 3) := by decide +kernel
theorem dX3_init_9 : decode cX3_init 9 = .ok (.aload_n 0, 1) := by decide +kernel
theorem dX3_init_10 : decode cX3_init 10 = .ok (.iload_n 2, 1) := by decide +kernel
theorem dX3_init_11 : decode cX3_init 11 = .ok (.putfield 15, 3) := by decide +kernel
theorem dX3_init_14 : decode cX3_init 14 = .ok (.aload_n 0, 1) := by decide +kernel
theorem dX3_init_15 : decode cX3_init 15 = .ok (.iload_n 2, 1) := by decide +kernel
theorem dX3_init_16 : decode cX3_init 16 = .ok (.i2l, 1) := by decide +kernel
theorem dX3_init_17 : decode cX3_init 17 = .ok (.iload_n 2, 1) := by decide +kernel
theorem dX3_init_18 : decode cX3_init 18 = .ok (.i2l, 1) := by decide +kernel
theorem dX3_init_19 : decode cX3_init 19 = .ok (.invokestatic 19, 3) := by decide +kernel
theorem dX3_init_22 : decode cX3_init 22 = .ok (.iconst 0, 1) := by decide +kernel
theorem dX3_init_23 : decode cX3_init 23 = .ok (.invokestatic 23, 3) := by decide +kernel
theorem dX3_init_26 : decode cX3_init 26 = .ok (.putfield 27, 3) := by decide +kernel
theorem dX3_init_29 : decode cX3_init 29 = .ok (.aload_n 0, 1) := by decide +kernel
theorem dX3_init_30 : decode cX3_init 30 = .ok (.iload_n 3, 1) := by decide +kernel
theorem dX3_init_31 : decode cX3_init 31 = .ok (.putfield 30, 3) := by decide +kernel
theorem dX3_init_34 : decode cX3_init 34 = .ok (.aload_n 0, 1) := by decide +kernel
theorem dX3_init_35 : decode cX3_init 35 = .ok (.iconst (-1), 1) := by decide +kernel
theorem dX3_init_36 : decode cX3_init 36 = .ok (.putfield 33, 3) := by decide +kernel
theorem dX3_init_39 : decode cX3_init 39 = .ok (.return_, 1) := by decide +kernel
theorem dX3_blockOn_0 : decode cX3_blockOn 0 = .ok (.aload_n 0, 1) := by decide +kernel
theorem dX3_blockOn_1 : decode cX3_blockOn 1 = .ok (.getfield 9, 3) := by decide +kernel
theorem dX3_blockOn_4 : decode cX3_blockOn 4 = .ok (.ifnull 27, 3) := by decide +kernel
theorem dX3_blockOn_7 : decode cX3_blockOn 7 = .ok (.iload_n 1, 1) := by decide +kernel
theorem dX3_blockOn_8 : decode cX3_blockOn 8 = .ok (.aload_n 0, 1) := by decide +kernel
theorem dX3_blockOn_9 : decode cX3_blockOn 9 = .ok (.getfield 30, 3) := by decide +kernel
theorem dX3_blockOn_12 : decode cX3_blockOn 12 = .ok (.if_icmp .lt 19, 3) := by decide +kernel
theorem dX3_blockOn_15 : decode cX3_blockOn 15 = .ok (.aload_n 0, 1) := by decide +kernel
theorem dX3_blockOn_16 : decode cX3_blockOn 16 = .ok (.getfield 33, 3) := by decide +kernel
theorem dX3_blockOn_19 : decode cX3_blockOn 19 = .ok (.iconst (-1), 1) := by decide +kernel
theorem dX3_blockOn_20 : decode cX3_blockOn 20 = .ok (.if_icmp .eq 13, 3) := by decide +kernel
theorem dX3_blockOn_23 : decode cX3_blockOn 23 = .ok (.iload_n 1, 1) := by decide +kernel
theorem dX3_blockOn_24 : decode cX3_blockOn 24 = .ok (.aload_n 0, 1) := by decide +kernel
theorem dX3_blockOn_25 : decode cX3_blockOn 25 = .ok (.getfield 33, 3) := by decide +kernel
theorem dX3_blockOn_28 : decode cX3_blockOn 28 = .ok (.if_icmp .lt 5, 3) := by decide +kernel
theorem dX3_blockOn_31 : decode cX3_blockOn 31 = .ok (.aconst_null, 1) := by decide +kernel
theorem dX3_blockOn_32 : decode cX3_blockOn 32 = .ok (.areturn, 1) := by decide +kernel
theorem dX3_blockOn_33 : decode cX3_blockOn 33 = .ok (.aload_n 0, 1) := by decide +kernel
theorem dX3_blockOn_34 : decode cX3_blockOn 34 = .ok (.getfield 9, 3) := by decide +kernel
theorem dX3_blockOn_37 : decode cX3_blockOn 37 = .ok (.aload_n 0, 1) := by decide +kernel
theorem dX3_blockOn_38 : decode cX3_blockOn 38 = .ok (.getfield 27, 3) := by decide +kernel
theorem dX3_blockOn_41 : decode cX3_blockOn 41 = .ok (.iload_n 1, 1) := by decide +kernel
theorem dX3_blockOn_42 : decode cX3_blockOn 42 = .ok (.invokevirtual 36, 3) := by decide +kernel
theorem dX3_blockOn_45 : decode cX3_blockOn 45 = .ok (.areturn, 1) := by decide +kernel
theorem dX3_carrierOn_0 : decode cX3_carrierOn 0 = .ok (.aload_n 0, 1) := by decide +kernel
theorem dX3_carrierOn_1 : decode cX3_carrierOn 1 = .ok (.getfield 42, 3) := by decide +kernel
theorem dX3_carrierOn_4 : decode cX3_carrierOn 4 = .ok (.astore_n 2, 1) := by decide +kernel
theorem dX3_carrierOn_5 : decode cX3_carrierOn 5 = .ok (.iconst 0, 1) := by decide +kernel
theorem dX3_carrierOn_6 : decode cX3_carrierOn 6 = .ok (.istore_n 3, 1) := by decide +kernel
theorem dX3_carrierOn_7 : decode cX3_carrierOn 7 = .ok (.iload_n 3, 1) := by decide +kernel
theorem dX3_carrierOn_8 : decode cX3_carrierOn 8 = .ok (.sipush 500, 3) := by decide +kernel
theorem dX3_carrierOn_11 : decode cX3_carrierOn 11 = .ok (.if_icmp .ge 31, 3) := by decide +kernel
theorem dX3_carrierOn_14 : decode cX3_carrierOn 14 = .ok (.aload_n 2, 1) := by decide +kernel
theorem dX3_carrierOn_15 : decode cX3_carrierOn 15 = .ok (.ifnull 27, 3) := by decide +kernel
theorem dX3_carrierOn_18 : decode cX3_carrierOn 18 = .ok (.aload_n 2, 1) := by decide +kernel
theorem dX3_carrierOn_19 : decode cX3_carrierOn 19 = .ok (.getfield 46, 3) := by decide +kernel
theorem dX3_carrierOn_22 : decode cX3_carrierOn 22 = .ok (.iload_n 1, 1) := by decide +kernel
theorem dX3_carrierOn_23 : decode cX3_carrierOn 23 = .ok (.if_icmp .gt 8, 3) := by decide +kernel
theorem dX3_carrierOn_26 : decode cX3_carrierOn 26 = .ok (.aload_n 2, 1) := by decide +kernel
theorem dX3_carrierOn_27 : decode cX3_carrierOn 27 = .ok (.getfield 51, 3) := by decide +kernel
theorem dX3_carrierOn_30 : decode cX3_carrierOn 30 = .ok (.ireturn, 1) := by decide +kernel
theorem dX3_carrierOn_31 : decode cX3_carrierOn 31 = .ok (.aload_n 2, 1) := by decide +kernel
theorem dX3_carrierOn_32 : decode cX3_carrierOn 32 = .ok (.getfield 54, 3) := by decide +kernel
theorem dX3_carrierOn_35 : decode cX3_carrierOn 35 = .ok (.astore_n 2, 1) := by decide +kernel
theorem dX3_carrierOn_36 : decode cX3_carrierOn 36 = .ok (.iinc 3 1, 3) := by decide +kernel
theorem dX3_carrierOn_39 : decode cX3_carrierOn 39 = .ok (.goto (-32), 3) := by decide +kernel
theorem dX3_carrierOn_42 : decode cX3_carrierOn 42 = .ok (.iconst (-1), 1) := by decide +kernel
theorem dX3_carrierOn_43 : decode cX3_carrierOn 43 = .ok (.ireturn, 1) := by decide +kernel
theorem dX4_init_0 : decode cX4_init 0 = .ok (.aload_n 0, 1) := by decide +kernel
theorem dX4_init_1 : decode cX4_init 1 = .ok (.invokespecial 3, 3) := by decide +kernel
theorem dX4_init_4 : decode cX4_init 4 = .ok (.aload_n 0, 1) := by decide +kernel
theorem dX4_init_5 : decode cX4_init 5 = .ok (.sipush 300, 3) := by decide +kernel
theorem dX4_init_8 : decode cX4_init 8 = .ok (.anewarray 9, 3) := by decide +kernel
theorem dX4_init_11 : decode cX4_init 11 = .ok (.putfield 11, 3) := by decide +kernel
theorem dX4_init_14 : decode cX4_init 14 = .ok (.aload_n 0, 1) := by decide +kernel
theorem dX4_init_15 : decode cX4_init 15 = .ok (.iconst 0, 1) := by decide +kernel
theorem dX4_init_16 : decode cX4_init 16 = .ok (.putfield 17, 3) := by decide +kernel
theorem dX4_init_19 : decode cX4_init 19 = .ok (.aload_n 0, 1) := by decide +kernel
theorem dX4_init_20 : decode cX4_init 20 = .ok (.iconst 0, 1) := by decide +kernel
theorem dX4_init_21 : decode cX4_init 21 = .ok (.putfield 21, 3) := by decide +kernel
theorem dX4_init_24 : decode cX4_init 24 = .ok (.return_, 1) := by decide +kernel
theorem dX4_lineWith_0 : decode cX4_lineWith 0 = .ok (.iload_n 1, 1) := by decide +kernel
theorem dX4_lineWith_1 : decode cX4_lineWith 1 = .ok (.ifCond .lt 29, 3) := by decide +kernel
theorem dX4_lineWith_4 : decode cX4_lineWith 4 = .ok (.iload_n 1, 1) := by decide +kernel
theorem dX4_lineWith_5 : decode cX4_lineWith 5 = .ok (.aload_n 0, 1) := by decide +kernel
theorem dX4_lineWith_6 : decode cX4_lineWith 6 = .ok (.getfield 17, 3) := by decide +kernel
theorem dX4_lineWith_9 : decode cX4_lineWith 9 = .ok (.if_icmp .ge 21, 3) := by decide +kernel
theorem dX4_lineWith_12 : decode cX4_lineWith 12 = .ok (.iload_n 1, 1) := by decide +kernel
theorem dX4_lineWith_13 : decode cX4_lineWith 13 = .ok (.aload_n 0, 1) := by decide +kernel
theorem dX4_lineWith_14 : decode cX4_lineWith 14 = .ok (.getfield 11, 3) := by decide +kernel
theorem dX4_lineWith_17 : decode cX4_lineWith 17 = .ok (.arraylength, 1) := by decide +kernel
theorem dX4_lineWith_18 : decode cX4_lineWith 18 = .ok (.if_icmp .ge 12, 3) := by decide +kernel
theorem dX4_lineWith_21 : decode cX4_lineWith 21 = .ok (.aload_n 0, 1) := by decide +kernel
theorem dX4_lineWith_22 : decode cX4_lineWith 22 = .ok (.getfield 11, 3) := by decide +kernel
theorem dX4_lineWith_25 : decode cX4_lineWith 25 = .ok (.iload_n 1, 1) := by decide +kernel
theorem dX4_lineWith_26 : decode cX4_lineWith 26 = .ok (.aaload, 1) := by decide +kernel
theorem dX4_lineWith_27 : decode cX4_lineWith 27 = .ok (.goto 4, 3) := by decide +kernel
theorem dX4_lineWith_30 : decode cX4_lineWith 30 = .ok (.aconst_null, 1) := by decide +kernel
theorem dX4_lineWith_31 : decode cX4_lineWith 31 = .ok (.areturn, 1) := by decide +kernel
theorem dX4_append_0 : decode cX4_append 0 = .ok (.aload_n 0, 1) := by decide +kernel
theorem dX4_append_1 : decode cX4_append 1 = .ok (.getfield 17, 3) := by decide +kernel
theorem dX4_append_4 : decode cX4_append 4 = .ok (.aload_n 0, 1) := by decide +kernel
theorem dX4_append_5 : decode cX4_append 5 = .ok (.getfield 11, 3) := by decide +kernel
theorem dX4_append_8 : decode cX4_append 8 = .ok (.arraylength, 1) := by decide +kernel
theorem dX4_append_9 : decode cX4_append 9 = .ok (.if_icmp .lt 6, 3) := by decide +kernel
theorem dX4_append_12 : decode cX4_append 12 = .ok (.bipush (-3), 2) := by decide +kernel
theorem dX4_append_14 : decode cX4_append 14 = .ok (.ireturn, 1) := by decide +kernel
theorem dX4_append_15 : decode cX4_append 15 = .ok (.aload_n 0, 1) := by decide +kernel
theorem dX4_append_16 : decode cX4_append 16 = .ok (.getfield 11, 3) := by decide +kernel
theorem dX4_append_19 : decode cX4_append 19 = .ok (.aload_n 0, 1) := by decide +kernel
theorem dX4_append_20 : decode cX4_append 20 = .ok (.getfield 17, 3) := by decide +kernel
theorem dX4_append_23 : decode cX4_append 23 = .ok (.new 9, 3) := by decide +kernel
theorem dX4_append_26 : decode cX4_append 26 = .ok (.dup, 1) := by decide +kernel
theorem dX4_append_27 : decode cX4_append 27 = .ok (.aload_n 1, 1) := by decide +kernel
theorem dX4_append_28 : decode cX4_append 28 = .ok (.iload_n 2, 1) := by decide +kernel
theorem dX4_append_29 : decode cX4_append 29 = .ok (.iload_n 3, 1) := by decide +kernel
theorem dX4_append_30 : decode cX4_append 30 = .ok (.invokespecial 24, 3) := by decide +kernel
theorem dX4_append_33 : decode cX4_append 33 = .ok (.aastore, 1) := by decide +kernel
theorem dX4_append_34 : decode cX4_append 34 = .ok (.aload_n 0, 1) := by decide +kernel
theorem dX4_append_35 : decode cX4_append 35 = .ok (.dup, 1) := by decide +kernel
theorem dX4_append_36 : decode cX4_append 36 = .ok (.getfield 17, 3) := by decide +kernel
theorem dX4_append_39 : decode cX4_append 39 = .ok (.iconst 1, 1) := by decide +kernel
theorem dX4_append_40 : decode cX4_append 40 = .ok (.iadd, 1) := by decide +kernel
theorem dX4_append_41 : decode cX4_append 41 = .ok (.putfield 17, 3) := by decide +kernel
theorem dX4_append_44 : decode cX4_append 44 = .ok (.aload_n 0, 1) := by decide +kernel
theorem dX4_append_45 : decode cX4_append 45 = .ok (.getfield 17, 3) := by decide +kernel
theorem dX4_append_48 : decode cX4_append 48 = .ok (.iconst 1, 1) := by decide +kernel
theorem dX4_append_49 : decode cX4_append 49 = .ok (.isub, 1) := by decide +kernel
theorem dX4_append_50 : decode cX4_append 50 = .ok (.ireturn, 1) := by decide +kernel
theorem dX4_portTo_0 : decode cX4_portTo 0 = .ok (.aload_n 0, 1) := by decide +kernel
theorem dX4_portTo_1 : decode cX4_portTo 1 = .ok (.getfield 21, 3) := by decide +kernel
theorem dX4_portTo_4 : decode cX4_portTo 4 = .ok (.sipush 500, 3) := by decide +kernel
theorem dX4_portTo_7 : decode cX4_portTo 7 = .ok (.if_icmp .lt 6, 3) := by decide +kernel
theorem dX4_portTo_10 : decode cX4_portTo 10 = .ok (.bipush (-3), 2) := by decide +kernel
theorem dX4_portTo_12 : decode cX4_portTo 12 = .ok (.ireturn, 1) := by decide +kernel
theorem dX4_portTo_13 : decode cX4_portTo 13 = .ok (.aload_n 1, 1) := by decide +kernel
theorem dX4_portTo_14 : decode cX4_portTo 14 = .ok (.iload_n 3, 1) := by decide +kernel
theorem dX4_portTo_15 : decode cX4_portTo 15 = .ok (.invokevirtual 27, 3) := by decide +kernel
theorem dX4_portTo_18 : decode cX4_portTo 18 = .ok (.istore 4, 2) := by decide +kernel
theorem dX4_portTo_20 : decode cX4_portTo 20 = .ok (.aload_n 1, 1) := by decide +kernel
theorem dX4_portTo_21 : decode cX4_portTo 21 = .ok (.new 31, 3) := by decide +kernel
theorem dX4_portTo_24 : decode cX4_portTo 24 = .ok (.dup, 1) := by decide +kernel
theorem dX4_portTo_25 : decode cX4_portTo 25 = .ok (.iload_n 2, 1) := by decide +kernel
theorem dX4_portTo_26 : decode cX4_portTo 26 = .ok (.iload_n 3, 1) := by decide +kernel
theorem dX4_portTo_27 : decode cX4_portTo 27 = .ok (.aload_n 1, 1) := by decide +kernel
theorem dX4_portTo_28 : decode cX4_portTo 28 = .ok (.getfield 33, 3) := by decide +kernel
theorem dX4_portTo_31 : decode cX4_portTo 31 = .ok (.invokespecial 37, 3) := by decide +kernel
theorem dX4_portTo_34 : decode cX4_portTo 34 = .ok (.putfield 33, 3) := by decide +kernel
theorem dX4_portTo_37 : decode cX4_portTo 37 = .ok (.aload_n 0, 1) := by decide +kernel
theorem dX4_portTo_38 : decode cX4_portTo 38 = .ok (.dup, 1) := by decide +kernel
theorem dX4_portTo_39 : decode cX4_portTo 39 = .ok (.getfield 21, 3) := by decide +kernel
theorem dX4_portTo_42 : decode cX4_portTo 42 = .ok (.iconst 1, 1) := by decide +kernel
theorem dX4_portTo_43 : decode cX4_portTo 43 = .ok (.iadd, 1) := by decide +kernel
theorem dX4_portTo_44 : decode cX4_portTo 44 = .ok (.putfield 21, 3) := by decide +kernel
theorem dX4_portTo_47 : decode cX4_portTo 47 = .ok (.iload 4, 2) := by decide +kernel
theorem dX4_portTo_49 : decode cX4_portTo 49 = .ok (.ireturn, 1) := by decide +kernel
theorem dX4_findOn_0 : decode cX4_findOn 0 = .ok (.iconst 0, 1) := by decide +kernel
theorem dX4_findOn_1 : decode cX4_findOn 1 = .ok (.istore 5, 2) := by decide +kernel
theorem dX4_findOn_3 : decode cX4_findOn 3 = .ok (.iload 5, 2) := by decide +kernel
theorem dX4_findOn_5 : decode cX4_findOn 5 = .ok (.aload_n 0, 1) := by decide +kernel
theorem dX4_findOn_6 : decode cX4_findOn 6 = .ok (.getfield 17, 3) := by decide +kernel
theorem dX4_findOn_9 : decode cX4_findOn 9 = .ok (.if_icmp .ge 47, 3) := by decide +kernel
theorem dX4_findOn_12 : decode cX4_findOn 12 = .ok (.aload_n 0, 1) := by decide +kernel
theorem dX4_findOn_13 : decode cX4_findOn 13 = .ok (.iload 5, 2) := by decide +kernel
theorem dX4_findOn_15 : decode cX4_findOn 15 = .ok (.invokevirtual 40, 3) := by decide +kernel
theorem dX4_findOn_18 : decode cX4_findOn 18 = .ok (.astore 6, 2) := by decide +kernel
theorem dX4_findOn_20 : decode cX4_findOn 20 = .ok (.aload 6, 2) := by decide +kernel
theorem dX4_findOn_22 : decode cX4_findOn 22 = .ok (.ifnull 28, 3) := by decide +kernel
theorem dX4_findOn_25 : decode cX4_findOn 25 = .ok (.aload 6, 2) := by decide +kernel
theorem dX4_findOn_27 : decode cX4_findOn 27 = .ok (.getfield 44, 3) := by decide +kernel
theorem dX4_findOn_30 : decode cX4_findOn 30 = .ok (.i2l, 1) := by decide +kernel
theorem dX4_findOn_31 : decode cX4_findOn 31 = .ok (.lload_n 2, 1) := by decide +kernel
theorem dX4_findOn_32 : decode cX4_findOn 32 = .ok (.lcmp, 1) := by decide +kernel
theorem dX4_findOn_33 : decode cX4_findOn 33 = .ok (.ifCond .ne 17, 3) := by decide +kernel
theorem dX4_findOn_36 : decode cX4_findOn 36 = .ok (.aload 6, 2) := by decide +kernel
theorem dX4_findOn_38 : decode cX4_findOn 38 = .ok (.iload 4, 2) := by decide +kernel
theorem dX4_findOn_40 : decode cX4_findOn 40 = .ok (.invokevirtual 47, 3) := by decide +kernel
theorem dX4_findOn_43 : decode cX4_findOn 43 = .ok (.aload_n 1, 1) := by decide +kernel
theorem dX4_findOn_44 : decode cX4_findOn 44 = .ok (.if_acmp .ne 6, 3) := by decide +kernel
theorem dX4_findOn_47 : decode cX4_findOn 47 = .ok (.iload 5, 2) := by decide +kernel
theorem dX4_findOn_49 : decode cX4_findOn 49 = .ok (.ireturn, 1) := by decide +kernel
theorem dX4_findOn_50 : decode cX4_findOn 50 = .ok (.iinc 5 1, 3) := by decide +kernel
theorem dX4_findOn_53 : decode cX4_findOn 53 = .ok (.goto (-50), 3) := by decide +kernel
theorem dX4_findOn_56 : decode cX4_findOn 56 = .ok (.iconst (-1), 1) := by decide +kernel
theorem dX4_findOn_57 : decode cX4_findOn 57 = .ok (.ireturn, 1) := by decide +kernel
theorem dX4_findBy_0 : decode cX4_findBy 0 = .ok (.aload_n 1, 1) := by decide +kernel
theorem dX4_findBy_1 : decode cX4_findBy 1 = .ok (.getfield 51, 3) := by decide +kernel
theorem dX4_findBy_4 : decode cX4_findBy 4 = .ok (.ifCond .ne 7, 3) := by decide +kernel
theorem dX4_findBy_7 : decode cX4_findBy 7 = .ok (.aload_n 1, 1) := by decide +kernel
theorem dX4_findBy_8 : decode cX4_findBy 8 = .ok (.goto 7, 3) := by decide +kernel
theorem dX4_findBy_11 : decode cX4_findBy 11 = .ok (.aload_n 1, 1) := by decide +kernel
theorem dX4_findBy_12 : decode cX4_findBy 12 = .ok (.getfield 56, 3) := by decide +kernel
theorem dX4_findBy_15 : decode cX4_findBy 15 = .ok (.astore 6, 2) := by decide +kernel
theorem dX4_findBy_17 : decode cX4_findBy 17 = .ok (.aload 6, 2) := by decide +kernel
theorem dX4_findBy_19 : decode cX4_findBy 19 = .ok (.ifnonnull 5, 3) := by decide +kernel
theorem dX4_findBy_22 : decode cX4_findBy 22 = .ok (.iconst (-1), 1) := by decide +kernel
theorem dX4_findBy_23 : decode cX4_findBy 23 = .ok (.ireturn, 1) := by decide +kernel
theorem dX4_findBy_24 : decode cX4_findBy 24 = .ok (.aload 6, 2) := by decide +kernel
theorem dX4_findBy_26 : decode cX4_findBy 26 = .ok (.lload_n 2, 1) := by decide +kernel
theorem dX4_findBy_27 : decode cX4_findBy 27 = .ok (.iload 4, 2) := by decide +kernel
theorem dX4_findBy_29 : decode cX4_findBy 29 = .ok (.aload_n 1, 1) := by decide +kernel
theorem dX4_findBy_30 : decode cX4_findBy 30 = .ok (.getfield 60, 3) := by decide +kernel
theorem dX4_findBy_33 : decode cX4_findBy 33 = .ok (.invokestatic 63, 3) := by decide +kernel
theorem dX4_findBy_36 : decode cX4_findBy 36 = .ok (.iload 5, 2) := by decide +kernel
theorem dX4_findBy_38 : decode cX4_findBy 38 = .ok (.invokevirtual 67, 3) := by decide +kernel
theorem dX4_findBy_41 : decode cX4_findBy 41 = .ok (.astore 7, 2) := by decide +kernel
theorem dX4_findBy_43 : decode cX4_findBy 43 = .ok (.aload 7, 2) := by decide +kernel
theorem dX4_findBy_45 : decode cX4_findBy 45 = .ok (.ifnonnull 7, 3) := by decide +kernel
theorem dX4_findBy_48 : decode cX4_findBy 48 = .ok (.iconst (-1), 1) := by decide +kernel
theorem dX4_findBy_49 : decode cX4_findBy 49 = .ok (.goto 22, 3) := by decide +kernel
theorem dX4_findBy_52 : decode cX4_findBy 52 = .ok (.aload_n 0, 1) := by decide +kernel
theorem dX4_findBy_53 : decode cX4_findBy 53 = .ok (.aload 7, 2) := by decide +kernel
theorem dX4_findBy_55 : decode cX4_findBy 55 = .ok (.lload_n 2, 1) := by decide +kernel
theorem dX4_findBy_56 : decode cX4_findBy 56 = .ok (.iload 4, 2) := by decide +kernel
theorem dX4_findBy_58 : decode cX4_findBy 58 = .ok (.aload_n 1, 1) := by decide +kernel
theorem dX4_findBy_59 : decode cX4_findBy 59 = .ok (.getfield 60, 3) := by decide +kernel
theorem dX4_findBy_62 : decode cX4_findBy 62 = .ok (.isub, 1) := by decide +kernel
theorem dX4_findBy_63 : decode cX4_findBy 63 = .ok (.invokestatic 71, 3) := by decide +kernel
theorem dX4_findBy_66 : decode cX4_findBy 66 = .ok (.iload 5, 2) := by decide +kernel
theorem dX4_findBy_68 : decode cX4_findBy 68 = .ok (.invokevirtual 75, 3) := by decide +kernel
theorem dX4_findBy_71 : decode cX4_findBy 71 = .ok (.ireturn, 1) := by decide +kernel
theorem dX4_numberedOn_0 : decode cX4_numberedOn 0 = .ok (.iconst 0, 1) := by decide +kernel
theorem dX4_numberedOn_1 : decode cX4_numberedOn 1 = .ok (.istore_n 2, 1) := by decide +kernel
theorem dX4_numberedOn_2 : decode cX4_numberedOn 2 = .ok (.iconst 0, 1) := by decide +kernel
theorem dX4_numberedOn_3 : decode cX4_numberedOn 3 = .ok (.istore_n 3, 1) := by decide +kernel
theorem dX4_numberedOn_4 : decode cX4_numberedOn 4 = .ok (.iload_n 3, 1) := by decide +kernel
theorem dX4_numberedOn_5 : decode cX4_numberedOn 5 = .ok (.aload_n 0, 1) := by decide +kernel
theorem dX4_numberedOn_6 : decode cX4_numberedOn 6 = .ok (.getfield 17, 3) := by decide +kernel
theorem dX4_numberedOn_9 : decode cX4_numberedOn 9 = .ok (.if_icmp .ge 33, 3) := by decide +kernel
theorem dX4_numberedOn_12 : decode cX4_numberedOn 12 = .ok (.aload_n 0, 1) := by decide +kernel
theorem dX4_numberedOn_13 : decode cX4_numberedOn 13 = .ok (.iload_n 3, 1) := by decide +kernel
theorem dX4_numberedOn_14 : decode cX4_numberedOn 14 = .ok (.invokevirtual 40, 3) := by decide +kernel
theorem dX4_numberedOn_17 : decode cX4_numberedOn 17 = .ok (.astore 4, 2) := by decide +kernel
theorem dX4_numberedOn_19 : decode cX4_numberedOn 19 = .ok (.aload 4, 2) := by decide +kernel
theorem dX4_numberedOn_21 : decode cX4_numberedOn 21 = .ok (.ifnull 15, 3) := by decide +kernel
theorem dX4_numberedOn_24 : decode cX4_numberedOn 24 = .ok (.aload 4, 2) := by decide +kernel
theorem dX4_numberedOn_26 : decode cX4_numberedOn 26 = .ok (.iload_n 1, 1) := by decide +kernel
theorem dX4_numberedOn_27 : decode cX4_numberedOn 27 = .ok (.invokevirtual 47, 3) := by decide +kernel
theorem dX4_numberedOn_30 : decode cX4_numberedOn 30 = .ok (.ifnull 6, 3) := by decide +kernel
theorem dX4_numberedOn_33 : decode cX4_numberedOn 33 = .ok (.iinc 2 1, 3) := by decide +kernel
theorem dX4_numberedOn_36 : decode cX4_numberedOn 36 = .ok (.iinc 3 1, 3) := by decide +kernel
theorem dX4_numberedOn_39 : decode cX4_numberedOn 39 = .ok (.goto (-35), 3) := by decide +kernel
theorem dX4_numberedOn_42 : decode cX4_numberedOn 42 = .ok (.iload_n 2, 1) := by decide +kernel
theorem dX4_numberedOn_43 : decode cX4_numberedOn 43 = .ok (.ireturn, 1) := by decide +kernel
theorem dX5_init_0 : decode cX5_init 0 = .ok (.aload_n 0, 1) := by decide +kernel
theorem dX5_init_1 : decode cX5_init 1 = .ok (.invokespecial 1, 3) := by decide +kernel
theorem dX5_init_4 : decode cX5_init 4 = .ok (.aload_n 0, 1) := by decide +kernel
theorem dX5_init_5 : decode cX5_init 5 = .ok (.aload_n 1, 1) := by decide +kernel
theorem dX5_init_6 : decode cX5_init 6 = .ok (.putfield 7, 3) := by decide +kernel
theorem dX5_init_9 : decode cX5_init 9 = .ok (.aload_n 0, 1) := by decide +kernel
theorem dX5_init_10 : decode cX5_init 10 = .ok (.iload_n 2, 1) := by decide +kernel
theorem dX5_init_11 : decode cX5_init 11 = .ok (.putfield 13, 3) := by decide +kernel
theorem dX5_init_14 : decode cX5_init 14 = .ok (.return_, 1) := by decide +kernel
theorem dX6_init_0 : decode cX6_init 0 = .ok (.aload_n 0, 1) := by decide +kernel
theorem dX6_init_1 : decode cX6_init 1 = .ok (.invokespecial 3, 3) := by decide +kernel
theorem dX6_init_4 : decode cX6_init 4 = .ok (.aload_n 0, 1) := by decide +kernel
theorem dX6_init_5 : decode cX6_init 5 = .ok (.bipush 120, 2) := by decide +kernel
theorem dX6_init_7 : decode cX6_init 7 = .ok (.anewarray 9, 3) := by decide +kernel
theorem dX6_init_10 : decode cX6_init 10 = .ok (.putfield 11, 3) := by decide +kernel
theorem dX6_init_13 : decode cX6_init 13 = .ok (.aload_n 0, 1) := by decide +kernel
theorem dX6_init_14 : decode cX6_init 14 = .ok (.iconst 0, 1) := by decide +kernel
theorem dX6_init_15 : decode cX6_init 15 = .ok (.putfield 17, 3) := by decide +kernel
theorem dX6_init_18 : decode cX6_init 18 = .ok (.aload_n 0, 1) := by decide +kernel
theorem dX6_init_19 : decode cX6_init 19 = .ok (.new 21, 3) := by decide +kernel
theorem dX6_init_22 : decode cX6_init 22 = .ok (.dup, 1) := by decide +kernel
theorem dX6_init_23 : decode cX6_init 23 = .ok (.invokespecial 23, 3) := by decide +kernel
theorem dX6_init_26 : decode cX6_init 26 = .ok (.putfield 24, 3) := by decide +kernel
theorem dX6_init_29 : decode cX6_init 29 = .ok (.return_, 1) := by decide +kernel
theorem dX6_entryAt_0 : decode cX6_entryAt 0 = .ok (.iload_n 1, 1) := by decide +kernel
theorem dX6_entryAt_1 : decode cX6_entryAt 1 = .ok (.ifCond .lt 29, 3) := by decide +kernel
theorem dX6_entryAt_4 : decode cX6_entryAt 4 = .ok (.iload_n 1, 1) := by decide +kernel
theorem dX6_entryAt_5 : decode cX6_entryAt 5 = .ok (.aload_n 0, 1) := by decide +kernel
theorem dX6_entryAt_6 : decode cX6_entryAt 6 = .ok (.getfield 17, 3) := by decide +kernel
theorem dX6_entryAt_9 : decode cX6_entryAt 9 = .ok (.if_icmp .ge 21, 3) := by decide +kernel
theorem dX6_entryAt_12 : decode cX6_entryAt 12 = .ok (.iload_n 1, 1) := by decide +kernel
theorem dX6_entryAt_13 : decode cX6_entryAt 13 = .ok (.aload_n 0, 1) := by decide +kernel
theorem dX6_entryAt_14 : decode cX6_entryAt 14 = .ok (.getfield 11, 3) := by decide +kernel
theorem dX6_entryAt_17 : decode cX6_entryAt 17 = .ok (.arraylength, 1) := by decide +kernel
theorem dX6_entryAt_18 : decode cX6_entryAt 18 = .ok (.if_icmp .ge 12, 3) := by decide +kernel
theorem dX6_entryAt_21 : decode cX6_entryAt 21 = .ok (.aload_n 0, 1) := by decide +kernel
theorem dX6_entryAt_22 : decode cX6_entryAt 22 = .ok (.getfield 11, 3) := by decide +kernel
theorem dX6_entryAt_25 : decode cX6_entryAt 25 = .ok (.iload_n 1, 1) := by decide +kernel
theorem dX6_entryAt_26 : decode cX6_entryAt 26 = .ok (.aaload, 1) := by decide +kernel
theorem dX6_entryAt_27 : decode cX6_entryAt 27 = .ok (.goto 4, 3) := by decide +kernel
theorem dX6_entryAt_30 : decode cX6_entryAt 30 = .ok (.aconst_null, 1) := by decide +kernel
theorem dX6_entryAt_31 : decode cX6_entryAt 31 = .ok (.areturn, 1) := by decide +kernel
theorem dX6_blockAt_0 : decode cX6_blockAt 0 = .ok (.aload_n 0, 1) := by decide +kernel
theorem dX6_blockAt_1 : decode cX6_blockAt 1 = .ok (.iload_n 1, 1) := by decide +kernel
theorem dX6_blockAt_2 : decode cX6_blockAt 2 = .ok (.invokevirtual 28, 3) := by decide +kernel
theorem dX6_blockAt_5 : decode cX6_blockAt 5 = .ok (.astore_n 2, 1) := by decide +kernel
theorem dX6_blockAt_6 : decode cX6_blockAt 6 = .ok (.aload_n 2, 1) := by decide +kernel
theorem dX6_blockAt_7 : decode cX6_blockAt 7 = .ok (.ifnull 14, 3) := by decide +kernel
theorem dX6_blockAt_10 : decode cX6_blockAt 10 = .ok (.aload_n 2, 1) := by decide +kernel
theorem dX6_blockAt_11 : decode cX6_blockAt 11 = .ok (.getfield 32, 3) := by decide +kernel
theorem dX6_blockAt_14 : decode cX6_blockAt 14 = .ok (.ifCond .ne 7, 3) := by decide +kernel
theorem dX6_blockAt_17 : decode cX6_blockAt 17 = .ok (.aload_n 2, 1) := by decide +kernel
theorem dX6_blockAt_18 : decode cX6_blockAt 18 = .ok (.goto 4, 3) := by decide +kernel
theorem dX6_blockAt_21 : decode cX6_blockAt 21 = .ok (.aconst_null, 1) := by decide +kernel
theorem dX6_blockAt_22 : decode cX6_blockAt 22 = .ok (.areturn, 1) := by decide +kernel
theorem dX6_hasRoomFor_0 : decode cX6_hasRoomFor 0 = .ok (.aload_n 0, 1) := by decide +kernel
theorem dX6_hasRoomFor_1 : decode cX6_hasRoomFor 1 = .ok (.getfield 17, 3) := by decide +kernel
theorem dX6_hasRoomFor_4 : decode cX6_hasRoomFor 4 = .ok (.iload_n 1, 1) := by decide +kernel
theorem dX6_hasRoomFor_5 : decode cX6_hasRoomFor 5 = .ok (.iadd, 1) := by decide +kernel
theorem dX6_hasRoomFor_6 : decode cX6_hasRoomFor 6 = .ok (.bipush 120, 2) := by decide +kernel
theorem dX6_hasRoomFor_8 : decode cX6_hasRoomFor 8 = .ok (.if_icmp .gt 7, 3) := by decide +kernel
theorem dX6_hasRoomFor_11 : decode cX6_hasRoomFor 11 = .ok (.iconst 1, 1) := by decide +kernel
theorem dX6_hasRoomFor_12 : decode cX6_hasRoomFor 12 = .ok (.goto 4, 3) := by decide +kernel
theorem dX6_hasRoomFor_15 : decode cX6_hasRoomFor 15 = .ok (.iconst 0, 1) := by decide +kernel
theorem dX6_hasRoomFor_16 : decode cX6_hasRoomFor 16 = .ok (.ireturn, 1) := by decide +kernel
theorem dX6_append_0 : decode cX6_append 0 = .ok (.aload_n 0, 1) := by decide +kernel
theorem dX6_append_1 : decode cX6_append 1 = .ok (.iconst 1, 1) := by decide +kernel
theorem dX6_append_2 : decode cX6_append 2 = .ok (.invokevirtual 35, 3) := by decide +kernel
theorem dX6_append_5 : decode cX6_append 5 = .ok (.ifCond .ne 6, 3) := by decide +kernel
theorem dX6_append_8 : decode cX6_append 8 = .ok (.bipush (-3), 2) := by decide +kernel
theorem dX6_append_10 : decode cX6_append 10 = .ok (.ireturn, 1) := by decide +kernel
theorem dX6_append_11 : decode cX6_append 11 = .ok (.iconst 0, 1) := by decide +kernel
theorem dX6_append_12 : decode cX6_append 12 = .ok (.istore_n 2, 1) := by decide +kernel
theorem dX6_append_13 : decode cX6_append 13 = .ok (.iload_n 2, 1) := by decide +kernel
theorem dX6_append_14 : decode cX6_append 14 = .ok (.aload_n 0, 1) := by decide +kernel
theorem dX6_append_15 : decode cX6_append 15 = .ok (.getfield 17, 3) := by decide +kernel
theorem dX6_append_18 : decode cX6_append 18 = .ok (.if_icmp .ge 35, 3) := by decide +kernel
theorem dX6_append_21 : decode cX6_append 21 = .ok (.aload_n 0, 1) := by decide +kernel
theorem dX6_append_22 : decode cX6_append 22 = .ok (.iload_n 2, 1) := by decide +kernel
theorem dX6_append_23 : decode cX6_append 23 = .ok (.invokevirtual 28, 3) := by decide +kernel
theorem dX6_append_26 : decode cX6_append 26 = .ok (.astore_n 3, 1) := by decide +kernel
theorem dX6_append_27 : decode cX6_append 27 = .ok (.aload_n 3, 1) := by decide +kernel
theorem dX6_append_28 : decode cX6_append 28 = .ok (.ifnull 19, 3) := by decide +kernel
theorem dX6_append_31 : decode cX6_append 31 = .ok (.aload_n 3, 1) := by decide +kernel
theorem dX6_append_32 : decode cX6_append 32 = .ok (.aload_n 1, 1) := by decide +kernel
theorem dX6_append_33 : decode cX6_append 33 = .ok (.invokevirtual 39, 3) := by decide +kernel
theorem dX6_append_36 : decode cX6_append 36 = .ok (.ifCond .eq 11, 3) := by decide +kernel
theorem dX6_append_39 : decode cX6_append 39 = .ok (.aload_n 3, 1) := by decide +kernel
theorem dX6_append_40 : decode cX6_append 40 = .ok (.aload_n 0, 1) := by decide +kernel
theorem dX6_append_41 : decode cX6_append 41 = .ok (.getfield 17, 3) := by decide +kernel
theorem dX6_append_44 : decode cX6_append 44 = .ok (.invokevirtual 43, 3) := by decide +kernel
theorem dX6_append_47 : decode cX6_append 47 = .ok (.iinc 2 1, 3) := by decide +kernel
theorem dX6_append_50 : decode cX6_append 50 = .ok (.goto (-37), 3) := by decide +kernel
theorem dX6_append_53 : decode cX6_append 53 = .ok (.aload_n 1, 1) := by decide +kernel
theorem dX6_append_54 : decode cX6_append 54 = .ok (.aload_n 0, 1) := by decide +kernel
theorem dX6_append_55 : decode cX6_append 55 = .ok (.getfield 17, 3) := by decide +kernel
theorem dX6_append_58 : decode cX6_append 58 = .ok (.putfield 47, 3) := by decide +kernel
theorem dX6_append_61 : decode cX6_append 61 = .ok (.aload_n 0, 1) := by decide +kernel
theorem dX6_append_62 : decode cX6_append 62 = .ok (.getfield 11, 3) := by decide +kernel
theorem dX6_append_65 : decode cX6_append 65 = .ok (.aload_n 0, 1) := by decide +kernel
theorem dX6_append_66 : decode cX6_append 66 = .ok (.getfield 17, 3) := by decide +kernel
theorem dX6_append_69 : decode cX6_append 69 = .ok (.aload_n 1, 1) := by decide +kernel
theorem dX6_append_70 : decode cX6_append 70 = .ok (.aastore, 1) := by decide +kernel
theorem dX6_append_71 : decode cX6_append 71 = .ok (.aload_n 0, 1) := by decide +kernel
theorem dX6_append_72 : decode cX6_append 72 = .ok (.dup, 1) := by decide +kernel
theorem dX6_append_73 : decode cX6_append 73 = .ok (.getfield 17, 3) := by decide +kernel
theorem dX6_append_76 : decode cX6_append 76 = .ok (.iconst 1, 1) := by decide +kernel
theorem dX6_append_77 : decode cX6_append 77 = .ok (.iadd, 1) := by decide +kernel
theorem dX6_append_78 : decode cX6_append 78 = .ok (.putfield 17, 3) := by decide +kernel
theorem dX6_append_81 : decode cX6_append 81 = .ok (.aload_n 1, 1) := by decide +kernel
theorem dX6_append_82 : decode cX6_append 82 = .ok (.getfield 47, 3) := by decide +kernel
theorem dX6_append_85 : decode cX6_append 85 = .ok (.ireturn, 1) := by decide +kernel
theorem dX6_change_0 : decode cX6_change 0 = .ok (.aload_n 1, 1) := by decide +kernel
theorem dX6_change_1 : decode cX6_change 1 = .ok (.getfield 50, 3) := by decide +kernel
theorem dX6_change_4 : decode cX6_change 4 = .ok (.aload_n 2, 1) := by decide +kernel
theorem dX6_change_5 : decode cX6_change 5 = .ok (.getfield 50, 3) := by decide +kernel
theorem dX6_change_8 : decode cX6_change 8 = .ok (.iconst (-1), 1) := by decide +kernel
theorem dX6_change_9 : decode cX6_change 9 = .ok (.ixor, 1) := by decide +kernel
theorem dX6_change_10 : decode cX6_change 10 = .ok (.iand, 1) := by decide +kernel
theorem dX6_change_11 : decode cX6_change 11 = .ok (.istore 4, 2) := by decide +kernel
theorem dX6_change_13 : decode cX6_change 13 = .ok (.iconst 1, 1) := by decide +kernel
theorem dX6_change_14 : decode cX6_change 14 = .ok (.iload 4, 2) := by decide +kernel
theorem dX6_change_16 : decode cX6_change 16 = .ok (.ifCond .eq 7, 3) := by decide +kernel
theorem dX6_change_19 : decode cX6_change 19 = .ok (.iconst 1, 1) := by decide +kernel
theorem dX6_change_20 : decode cX6_change 20 = .ok (.goto 4, 3) := by decide +kernel
theorem dX6_change_23 : decode cX6_change 23 = .ok (.iconst 0, 1) := by decide +kernel
theorem dX6_change_24 : decode cX6_change 24 = .ok (.iadd, 1) := by decide +kernel
theorem dX6_change_25 : decode cX6_change 25 = .ok (.iload_n 3, 1) := by decide +kernel
theorem dX6_change_26 : decode cX6_change 26 = .ok (.ifCond .le 7, 3) := by decide +kernel
theorem dX6_change_29 : decode cX6_change 29 = .ok (.iconst 1, 1) := by decide +kernel
theorem dX6_change_30 : decode cX6_change 30 = .ok (.goto 4, 3) := by decide +kernel
theorem dX6_change_33 : decode cX6_change 33 = .ok (.iconst 0, 1) := by decide +kernel
theorem dX6_change_34 : decode cX6_change 34 = .ok (.iadd, 1) := by decide +kernel
theorem dX6_change_35 : decode cX6_change 35 = .ok (.istore 5, 2) := by decide +kernel
theorem dX6_change_37 : decode cX6_change 37 = .ok (.aload_n 0, 1) := by decide +kernel
theorem dX6_change_38 : decode cX6_change 38 = .ok (.iload 5, 2) := by decide +kernel
theorem dX6_change_40 : decode cX6_change 40 = .ok (.invokevirtual 35, 3) := by decide +kernel
theorem dX6_change_43 : decode cX6_change 43 = .ok (.ifCond .ne 6, 3) := by decide +kernel
theorem dX6_change_46 : decode cX6_change 46 = .ok (.bipush (-3), 2) := by decide +kernel
theorem dX6_change_48 : decode cX6_change 48 = .ok (.ireturn, 1) := by decide +kernel
theorem dX6_change_49 : decode cX6_change 49 = .ok (.aload_n 2, 1) := by decide +kernel
theorem dX6_change_50 : decode cX6_change 50 = .ok (.getfield 53, 3) := by decide +kernel
theorem dX6_change_53 : decode cX6_change 53 = .ok (.istore 6, 2) := by decide +kernel
theorem dX6_change_55 : decode cX6_change 55 = .ok (.iload 4, 2) := by decide +kernel
theorem dX6_change_57 : decode cX6_change 57 = .ok (.ifCond .eq 48, 3) := by decide +kernel
theorem dX6_change_60 : decode cX6_change 60 = .ok (.aload_n 1, 1) := by decide +kernel
theorem dX6_change_61 : decode cX6_change 61 = .ok (.new 9, 3) := by decide +kernel
theorem dX6_change_64 : decode cX6_change 64 = .ok (.dup, 1) := by decide +kernel
theorem dX6_change_65 : decode cX6_change 65 = .ok (.iconst 0, 1) := by decide +kernel
theorem dX6_change_66 : decode cX6_change 66 = .ok (.aload_n 1, 1) := by decide +kernel
theorem dX6_change_67 : decode cX6_change 67 = .ok (.getfield 56, 3) := by decide +kernel
theorem dX6_change_70 : decode cX6_change 70 = .ok (.aload_n 1, 1) := by decide +kernel
theorem dX6_change_71 : decode cX6_change 71 = .ok (.getfield 59, 3) := by decide +kernel
theorem dX6_change_74 : decode cX6_change 74 = .ok (.iload 4, 2) := by decide +kernel
theorem dX6_change_76 : decode cX6_change 76 = .ok (.aload_n 1, 1) := by decide +kernel
theorem dX6_change_77 : decode cX6_change 77 = .ok (.getfield 62, 3) := by decide +kernel
theorem dX6_change_80 : decode cX6_change 80 = .ok (.aload_n 1, 1) := by decide +kernel
theorem dX6_change_81 : decode cX6_change 81 = .ok (.getfield 65, 3) := by decide +kernel
theorem dX6_change_84 : decode cX6_change 84 = .ok (.iload 6, 2) := by decide +kernel
theorem dX6_change_86 : decode cX6_change 86 = .ok (.invokespecial 68, 3) := by decide +kernel
theorem dX6_change_89 : decode cX6_change 89 = .ok (.putfield 71, 3) := by decide +kernel
theorem dX6_change_92 : decode cX6_change 92 = .ok (.aload_n 0, 1) := by decide +kernel
theorem dX6_change_93 : decode cX6_change 93 = .ok (.aload_n 1, 1) := by decide +kernel
theorem dX6_change_94 : decode cX6_change 94 = .ok (.aload_n 1, 1) := by decide +kernel
theorem dX6_change_95 : decode cX6_change 95 = .ok (.getfield 71, 3) := by decide +kernel
theorem dX6_change_98 : decode cX6_change 98 = .ok (.aload_n 1, 1) := by decide +kernel
theorem dX6_change_99 : decode cX6_change 99 = .ok (.getfield 75, 3) := by decide +kernel
theorem dX6_change_102 : decode cX6_change 102 = .ok (.invokevirtual 78, 3) := by decide +kernel
theorem dX6_change_105 : decode cX6_change 105 = .ok (.aload_n 0, 1) := by decide +kernel
theorem dX6_change_106 : decode cX6_change 106 = .ok (.aload_n 1, 1) := by decide +kernel
theorem dX6_change_107 : decode cX6_change 107 = .ok (.aload_n 2, 1) := by decide +kernel
theorem dX6_change_108 : decode cX6_change 108 = .ok (.aload_n 1, 1) := by decide +kernel
theorem dX6_change_109 : decode cX6_change 109 = .ok (.getfield 75, 3) := by decide +kernel
theorem dX6_change_112 : decode cX6_change 112 = .ok (.invokevirtual 78, 3) := by decide +kernel
theorem dX6_change_115 : decode cX6_change 115 = .ok (.iload_n 3, 1) := by decide +kernel
theorem dX6_change_116 : decode cX6_change 116 = .ok (.ifCond .le 74, 3) := by decide +kernel
theorem dX6_change_119 : decode cX6_change 119 = .ok (.new 9, 3) := by decide +kernel
theorem dX6_change_122 : decode cX6_change 122 = .ok (.dup, 1) := by decide +kernel
theorem dX6_change_123 : decode cX6_change 123 = .ok (.iconst 3, 1) := by decide +kernel
theorem dX6_change_124 : decode cX6_change 124 = .ok (.aload_n 2, 1) := by decide +kernel
theorem dX6_change_125 : decode cX6_change 125 = .ok (.getfield 47, 3) := by decide +kernel
theorem dX6_change_128 : decode cX6_change 128 = .ok (.aload_n 1, 1) := by decide +kernel
theorem dX6_change_129 : decode cX6_change 129 = .ok (.getfield 59, 3) := by decide +kernel
theorem dX6_change_132 : decode cX6_change 132 = .ok (.aload_n 2, 1) := by decide +kernel
theorem dX6_change_133 : decode cX6_change 133 = .ok (.getfield 50, 3) := by decide +kernel
theorem dX6_change_136 : decode cX6_change 136 = .ok (.aload_n 1, 1) := by decide +kernel
theorem dX6_change_137 : decode cX6_change 137 = .ok (.getfield 62, 3) := by decide +kernel
theorem dX6_change_140 : decode cX6_change 140 = .ok (.aload_n 1, 1) := by decide +kernel
theorem dX6_change_141 : decode cX6_change 141 = .ok (.getfield 65, 3) := by decide +kernel
theorem dX6_change_144 : decode cX6_change 144 = .ok (.iload 6, 2) := by decide +kernel
theorem dX6_change_146 : decode cX6_change 146 = .ok (.invokespecial 68, 3) := by decide +kernel
theorem dX6_change_149 : decode cX6_change 149 = .ok (.astore 7, 2) := by decide +kernel
theorem dX6_change_151 : decode cX6_change 151 = .ok (.aload 7, 2) := by decide +kernel
theorem dX6_change_153 : decode cX6_change 153 = .ok (.aload_n 2, 1) := by decide +kernel
theorem dX6_change_154 : decode cX6_change 154 = .ok (.putfield 82, 3) := by decide +kernel
theorem dX6_change_157 : decode cX6_change 157 = .ok (.aload_n 0, 1) := by decide +kernel
theorem dX6_change_158 : decode cX6_change 158 = .ok (.aload_n 1, 1) := by decide +kernel
theorem dX6_change_159 : decode cX6_change 159 = .ok (.aload 7, 2) := by decide +kernel
theorem dX6_change_161 : decode cX6_change 161 = .ok (.aload_n 1, 1) := by decide +kernel
theorem dX6_change_162 : decode cX6_change 162 = .ok (.getfield 75, 3) := by decide +kernel
theorem dX6_change_165 : decode cX6_change 165 = .ok (.iconst (-1), 1) := by decide +kernel
theorem dX6_change_166 : decode cX6_change 166 = .ok (.if_icmp .ne 10, 3) := by decide +kernel
theorem dX6_change_169 : decode cX6_change 169 = .ok (.iload 6, 2) := by decide +kernel
theorem dX6_change_171 : decode cX6_change 171 = .ok (.iload_n 3, 1) := by decide +kernel
theorem dX6_change_172 : decode cX6_change 172 = .ok (.iadd, 1) := by decide +kernel
theorem dX6_change_173 : decode cX6_change 173 = .ok (.goto 14, 3) := by decide +kernel
theorem dX6_change_176 : decode cX6_change 176 = .ok (.iload 6, 2) := by decide +kernel
theorem dX6_change_178 : decode cX6_change 178 = .ok (.iload_n 3, 1) := by decide +kernel
theorem dX6_change_179 : decode cX6_change 179 = .ok (.iadd, 1) := by decide +kernel
theorem dX6_change_180 : decode cX6_change 180 = .ok (.aload_n 1, 1) := by decide +kernel
theorem dX6_change_181 : decode cX6_change 181 = .ok (.getfield 75, 3) := by decide +kernel
theorem dX6_change_184 : decode cX6_change 184 = .ok (.invokestatic 85, 3) := by decide +kernel
theorem dX6_change_187 : decode cX6_change 187 = .ok (.invokevirtual 78, 3) := by decide +kernel
theorem dX6_change_190 : decode cX6_change 190 = .ok (.aload_n 1, 1) := by decide +kernel
theorem dX6_change_191 : decode cX6_change 191 = .ok (.aload_n 2, 1) := by decide +kernel
theorem dX6_change_192 : decode cX6_change 192 = .ok (.putfield 91, 3) := by decide +kernel
theorem dX6_change_195 : decode cX6_change 195 = .ok (.aload_n 1, 1) := by decide +kernel
theorem dX6_change_196 : decode cX6_change 196 = .ok (.iload 6, 2) := by decide +kernel
theorem dX6_change_198 : decode cX6_change 198 = .ok (.putfield 94, 3) := by decide +kernel
theorem dX6_change_201 : decode cX6_change 201 = .ok (.aload_n 1, 1) := by decide +kernel
theorem dX6_change_202 : decode cX6_change 202 = .ok (.iload 6, 2) := by decide +kernel
theorem dX6_change_204 : decode cX6_change 204 = .ok (.putfield 75, 3) := by decide +kernel
theorem dX6_change_207 : decode cX6_change 207 = .ok (.aload_n 2, 1) := by decide +kernel
theorem dX6_change_208 : decode cX6_change 208 = .ok (.getfield 47, 3) := by decide +kernel
theorem dX6_change_211 : decode cX6_change 211 = .ok (.ireturn, 1) := by decide +kernel
theorem dX6_appendFrom_0 : decode cX6_appendFrom 0 = .ok (.aload_n 2, 1) := by decide +kernel
theorem dX6_appendFrom_1 : decode cX6_appendFrom 1 = .ok (.aload_n 1, 1) := by decide +kernel
theorem dX6_appendFrom_2 : decode cX6_appendFrom 2 = .ok (.getfield 47, 3) := by decide +kernel
theorem dX6_appendFrom_5 : decode cX6_appendFrom 5 = .ok (.putfield 97, 3) := by decide +kernel
theorem dX6_appendFrom_8 : decode cX6_appendFrom 8 = .ok (.aload_n 2, 1) := by decide +kernel
theorem dX6_appendFrom_9 : decode cX6_appendFrom 9 = .ok (.iload_n 3, 1) := by decide +kernel
theorem dX6_appendFrom_10 : decode cX6_appendFrom 10 = .ok (.putfield 75, 3) := by decide +kernel
theorem dX6_appendFrom_13 : decode cX6_appendFrom 13 = .ok (.aload_n 0, 1) := by decide +kernel
theorem dX6_appendFrom_14 : decode cX6_appendFrom 14 = .ok (.aload_n 2, 1) := by decide +kernel
theorem dX6_appendFrom_15 : decode cX6_appendFrom 15 = .ok (.invokevirtual 100, 3) := by decide +kernel
theorem dX6_appendFrom_18 : decode cX6_appendFrom 18 = .ok (.pop, 1) := by decide +kernel
theorem dX6_appendFrom_19 : decode cX6_appendFrom 19 = .ok (.return_, 1) := by decide +kernel
theorem dX6_inForceOn_0 : decode cX6_inForceOn 0 = .ok (.iconst 0, 1) := by decide +kernel
theorem dX6_inForceOn_1 : decode cX6_inForceOn 1 = .ok (.istore_n 2, 1) := by decide +kernel
theorem dX6_inForceOn_2 : decode cX6_inForceOn 2 = .ok (.iconst 0, 1) := by decide +kernel
theorem dX6_inForceOn_3 : decode cX6_inForceOn 3 = .ok (.istore_n 3, 1) := by decide +kernel
theorem dX6_inForceOn_4 : decode cX6_inForceOn 4 = .ok (.iload_n 3, 1) := by decide +kernel
theorem dX6_inForceOn_5 : decode cX6_inForceOn 5 = .ok (.aload_n 0, 1) := by decide +kernel
theorem dX6_inForceOn_6 : decode cX6_inForceOn 6 = .ok (.getfield 17, 3) := by decide +kernel
theorem dX6_inForceOn_9 : decode cX6_inForceOn 9 = .ok (.if_icmp .ge 33, 3) := by decide +kernel
theorem dX6_inForceOn_12 : decode cX6_inForceOn 12 = .ok (.aload_n 0, 1) := by decide +kernel
theorem dX6_inForceOn_13 : decode cX6_inForceOn 13 = .ok (.iload_n 3, 1) := by decide +kernel
theorem dX6_inForceOn_14 : decode cX6_inForceOn 14 = .ok (.invokevirtual 28, 3) := by decide +kernel
theorem dX6_inForceOn_17 : decode cX6_inForceOn 17 = .ok (.astore 4, 2) := by decide +kernel
theorem dX6_inForceOn_19 : decode cX6_inForceOn 19 = .ok (.aload 4, 2) := by decide +kernel
theorem dX6_inForceOn_21 : decode cX6_inForceOn 21 = .ok (.ifnull 15, 3) := by decide +kernel
theorem dX6_inForceOn_24 : decode cX6_inForceOn 24 = .ok (.aload 4, 2) := by decide +kernel
theorem dX6_inForceOn_26 : decode cX6_inForceOn 26 = .ok (.iload_n 1, 1) := by decide +kernel
theorem dX6_inForceOn_27 : decode cX6_inForceOn 27 = .ok (.invokevirtual 104, 3) := by decide +kernel
theorem dX6_inForceOn_30 : decode cX6_inForceOn 30 = .ok (.ifCond .eq 6, 3) := by decide +kernel
theorem dX6_inForceOn_33 : decode cX6_inForceOn 33 = .ok (.iinc 2 1, 3) := by decide +kernel
theorem dX6_inForceOn_36 : decode cX6_inForceOn 36 = .ok (.iinc 3 1, 3) := by decide +kernel
theorem dX6_inForceOn_39 : decode cX6_inForceOn 39 = .ok (.goto (-35), 3) := by decide +kernel
theorem dX6_inForceOn_42 : decode cX6_inForceOn 42 = .ok (.iload_n 2, 1) := by decide +kernel
theorem dX6_inForceOn_43 : decode cX6_inForceOn 43 = .ok (.ireturn, 1) := by decide +kernel
theorem dX6_noteInForce_0 : decode cX6_noteInForce 0 = .ok (.aload_n 0, 1) := by decide +kernel
theorem dX6_noteInForce_1 : decode cX6_noteInForce 1 = .ok (.lconst 0, 1) := by decide +kernel
theorem dX6_noteInForce_2 : decode cX6_noteInForce 2 = .ok (.putfield 107, 3) := by decide +kernel
theorem dX6_noteInForce_5 : decode cX6_noteInForce 5 = .ok (.aload_n 0, 1) := by decide +kernel
theorem dX6_noteInForce_6 : decode cX6_noteInForce 6 = .ok (.lconst 0, 1) := by decide +kernel
theorem dX6_noteInForce_7 : decode cX6_noteInForce 7 = .ok (.putfield 111, 3) := by decide +kernel
theorem dX6_noteInForce_10 : decode cX6_noteInForce 10 = .ok (.iconst 0, 1) := by decide +kernel
theorem dX6_noteInForce_11 : decode cX6_noteInForce 11 = .ok (.istore_n 2, 1) := by decide +kernel
theorem dX6_noteInForce_12 : decode cX6_noteInForce 12 = .ok (.iload_n 2, 1) := by decide +kernel
theorem dX6_noteInForce_13 : decode cX6_noteInForce 13 = .ok (.aload_n 0, 1) := by decide +kernel
theorem dX6_noteInForce_14 : decode cX6_noteInForce 14 = .ok (.getfield 17, 3) := by decide +kernel
theorem dX6_noteInForce_17 : decode cX6_noteInForce 17 = .ok (.if_icmp .ge 63, 3) := by decide +kernel
theorem dX6_noteInForce_20 : decode cX6_noteInForce 20 = .ok (.aload_n 0, 1) := by decide +kernel
theorem dX6_noteInForce_21 : decode cX6_noteInForce 21 = .ok (.iload_n 2, 1) := by decide +kernel
theorem dX6_noteInForce_22 : decode cX6_noteInForce 22 = .ok (.invokevirtual 28, 3) := by decide +kernel
theorem dX6_noteInForce_25 : decode cX6_noteInForce 25 = .ok (.astore_n 3, 1) := by decide +kernel
theorem dX6_noteInForce_26 : decode cX6_noteInForce 26 = .ok (.aload_n 3, 1) := by decide +kernel
theorem dX6_noteInForce_27 : decode cX6_noteInForce 27 = .ok (.ifnull 47, 3) := by decide +kernel
theorem dX6_noteInForce_30 : decode cX6_noteInForce 30 = .ok (.aload_n 3, 1) := by decide +kernel
theorem dX6_noteInForce_31 : decode cX6_noteInForce 31 = .ok (.iload_n 1, 1) := by decide +kernel
theorem dX6_noteInForce_32 : decode cX6_noteInForce 32 = .ok (.invokevirtual 104, 3) := by decide +kernel
theorem dX6_noteInForce_35 : decode cX6_noteInForce 35 = .ok (.ifCond .eq 39, 3) := by decide +kernel
theorem dX6_noteInForce_38 : decode cX6_noteInForce 38 = .ok (.iload_n 2, 1) := by decide +kernel
theorem dX6_noteInForce_39 : decode cX6_noteInForce 39 = .ok (.bipush 64, 2) := by decide +kernel
theorem dX6_noteInForce_41 : decode cX6_noteInForce 41 = .ok (.if_icmp .ge 18, 3) := by decide +kernel
theorem dX6_noteInForce_44 : decode cX6_noteInForce 44 = .ok (.aload_n 0, 1) := by decide +kernel
theorem dX6_noteInForce_45 : decode cX6_noteInForce 45 = .ok (.dup, 1) := by decide +kernel
theorem dX6_noteInForce_46 : decode cX6_noteInForce 46 = .ok (.getfield 107, 3) := by decide +kernel
theorem dX6_noteInForce_49 : decode cX6_noteInForce 49 = .ok (.lconst 1, 1) := by decide +kernel
theorem dX6_noteInForce_50 : decode cX6_noteInForce 50 = .ok (.iload_n 2, 1) := by decide +kernel
theorem dX6_noteInForce_51 : decode cX6_noteInForce 51 = .ok (.lshl, 1) := by decide +kernel
theorem dX6_noteInForce_52 : decode cX6_noteInForce 52 = .ok (.lor, 1) := by decide +kernel
theorem dX6_noteInForce_53 : decode cX6_noteInForce 53 = .ok (.putfield 107, 3) := by decide +kernel
theorem dX6_noteInForce_56 : decode cX6_noteInForce 56 = .ok (.goto 18, 3) := by decide +kernel
theorem dX6_noteInForce_59 : decode cX6_noteInForce 59 = .ok (.aload_n 0, 1) := by decide +kernel
theorem dX6_noteInForce_60 : decode cX6_noteInForce 60 = .ok (.dup, 1) := by decide +kernel
theorem dX6_noteInForce_61 : decode cX6_noteInForce 61 = .ok (.getfield 111, 3) := by decide +kernel
theorem dX6_noteInForce_64 : decode cX6_noteInForce 64 = .ok (.lconst 1, 1) := by decide +kernel
theorem dX6_noteInForce_65 : decode cX6_noteInForce 65 = .ok (.iload_n 2, 1) := by decide +kernel
theorem dX6_noteInForce_66 : decode cX6_noteInForce 66 = .ok (.bipush 64, 2) := by decide +kernel
theorem dX6_noteInForce_68 : decode cX6_noteInForce 68 = .ok (.isub, 1) := by decide +kernel
theorem dX6_noteInForce_69 : decode cX6_noteInForce 69 = .ok (.lshl, 1) := by decide +kernel
theorem dX6_noteInForce_70 : decode cX6_noteInForce 70 = .ok (.lor, 1) := by decide +kernel
theorem dX6_noteInForce_71 : decode cX6_noteInForce 71 = .ok (.putfield 111, 3) := by decide +kernel
theorem dX6_noteInForce_74 : decode cX6_noteInForce 74 = .ok (.iinc 2 1, 3) := by decide +kernel
theorem dX6_noteInForce_77 : decode cX6_noteInForce 77 = .ok (.goto (-65), 3) := by decide +kernel
theorem dX6_noteInForce_80 : decode cX6_noteInForce 80 = .ok (.return_, 1) := by decide +kernel
theorem dX6_pairsOf_0 : decode cX6_pairsOf 0 = .ok (.aload_n 1, 1) := by decide +kernel
theorem dX6_pairsOf_1 : decode cX6_pairsOf 1 = .ok (.getfield 114, 3) := by decide +kernel
theorem dX6_pairsOf_4 : decode cX6_pairsOf 4 = .ok (.aload_n 0, 1) := by decide +kernel
theorem dX6_pairsOf_5 : decode cX6_pairsOf 5 = .ok (.getfield 107, 3) := by decide +kernel
theorem dX6_pairsOf_8 : decode cX6_pairsOf 8 = .ok (.land, 1) := by decide +kernel
theorem dX6_pairsOf_9 : decode cX6_pairsOf 9 = .ok (.invokestatic 117, 3) := by decide +kernel
theorem dX6_pairsOf_12 : decode cX6_pairsOf 12 = .ok (.aload_n 1, 1) := by decide +kernel
theorem dX6_pairsOf_13 : decode cX6_pairsOf 13 = .ok (.getfield 123, 3) := by decide +kernel
theorem dX6_pairsOf_16 : decode cX6_pairsOf 16 = .ok (.aload_n 0, 1) := by decide +kernel
theorem dX6_pairsOf_17 : decode cX6_pairsOf 17 = .ok (.getfield 111, 3) := by decide +kernel
theorem dX6_pairsOf_20 : decode cX6_pairsOf 20 = .ok (.land, 1) := by decide +kernel
theorem dX6_pairsOf_21 : decode cX6_pairsOf 21 = .ok (.invokestatic 117, 3) := by decide +kernel
theorem dX6_pairsOf_24 : decode cX6_pairsOf 24 = .ok (.iadd, 1) := by decide +kernel
theorem dX6_pairsOf_25 : decode cX6_pairsOf 25 = .ok (.ireturn, 1) := by decide +kernel
theorem dX6_pairsOn_0 : decode cX6_pairsOn 0 = .ok (.aload_n 0, 1) := by decide +kernel
theorem dX6_pairsOn_1 : decode cX6_pairsOn 1 = .ok (.iload_n 1, 1) := by decide +kernel
theorem dX6_pairsOn_2 : decode cX6_pairsOn 2 = .ok (.invokevirtual 126, 3) := by decide +kernel
theorem dX6_pairsOn_5 : decode cX6_pairsOn 5 = .ok (.iconst 0, 1) := by decide +kernel
theorem dX6_pairsOn_6 : decode cX6_pairsOn 6 = .ok (.istore_n 2, 1) := by decide +kernel
theorem dX6_pairsOn_7 : decode cX6_pairsOn 7 = .ok (.iconst 0, 1) := by decide +kernel
theorem dX6_pairsOn_8 : decode cX6_pairsOn 8 = .ok (.istore_n 3, 1) := by decide +kernel
theorem dX6_pairsOn_9 : decode cX6_pairsOn 9 = .ok (.iload_n 3, 1) := by decide +kernel
theorem dX6_pairsOn_10 : decode cX6_pairsOn 10 = .ok (.aload_n 0, 1) := by decide +kernel
theorem dX6_pairsOn_11 : decode cX6_pairsOn 11 = .ok (.getfield 17, 3) := by decide +kernel
theorem dX6_pairsOn_14 : decode cX6_pairsOn 14 = .ok (.if_icmp .ge 39, 3) := by decide +kernel
theorem dX6_pairsOn_17 : decode cX6_pairsOn 17 = .ok (.aload_n 0, 1) := by decide +kernel
theorem dX6_pairsOn_18 : decode cX6_pairsOn 18 = .ok (.iload_n 3, 1) := by decide +kernel
theorem dX6_pairsOn_19 : decode cX6_pairsOn 19 = .ok (.invokevirtual 28, 3) := by decide +kernel
theorem dX6_pairsOn_22 : decode cX6_pairsOn 22 = .ok (.astore 4, 2) := by decide +kernel
theorem dX6_pairsOn_24 : decode cX6_pairsOn 24 = .ok (.aload 4, 2) := by decide +kernel
theorem dX6_pairsOn_26 : decode cX6_pairsOn 26 = .ok (.ifnull 21, 3) := by decide +kernel
theorem dX6_pairsOn_29 : decode cX6_pairsOn 29 = .ok (.aload 4, 2) := by decide +kernel
theorem dX6_pairsOn_31 : decode cX6_pairsOn 31 = .ok (.iload_n 1, 1) := by decide +kernel
theorem dX6_pairsOn_32 : decode cX6_pairsOn 32 = .ok (.invokevirtual 104, 3) := by decide +kernel
theorem dX6_pairsOn_35 : decode cX6_pairsOn 35 = .ok (.ifCond .eq 12, 3) := by decide +kernel
theorem dX6_pairsOn_38 : decode cX6_pairsOn 38 = .ok (.iload_n 2, 1) := by decide +kernel
theorem dX6_pairsOn_39 : decode cX6_pairsOn 39 = .ok (.aload_n 0, 1) := by decide +kernel
theorem dX6_pairsOn_40 : decode cX6_pairsOn 40 = .ok (.aload 4, 2) := by decide +kernel
theorem dX6_pairsOn_42 : decode cX6_pairsOn 42 = .ok (.invokevirtual 129, 3) := by decide +kernel
theorem dX6_pairsOn_45 : decode cX6_pairsOn 45 = .ok (.iadd, 1) := by decide +kernel
theorem dX6_pairsOn_46 : decode cX6_pairsOn 46 = .ok (.istore_n 2, 1) := by decide +kernel
theorem dX6_pairsOn_47 : decode cX6_pairsOn 47 = .ok (.iinc 3 1, 3) := by decide +kernel
theorem dX6_pairsOn_50 : decode cX6_pairsOn 50 = .ok (.goto (-41), 3) := by decide +kernel
theorem dX6_pairsOn_53 : decode cX6_pairsOn 53 = .ok (.iload_n 2, 1) := by decide +kernel
theorem dX6_pairsOn_54 : decode cX6_pairsOn 54 = .ok (.ireturn, 1) := by decide +kernel
theorem dX6_pairOn_0 : decode cX6_pairOn 0 = .ok (.aload_n 0, 1) := by decide +kernel
theorem dX6_pairOn_1 : decode cX6_pairOn 1 = .ok (.iload_n 1, 1) := by decide +kernel
theorem dX6_pairOn_2 : decode cX6_pairOn 2 = .ok (.invokevirtual 126, 3) := by decide +kernel
theorem dX6_pairOn_5 : decode cX6_pairOn 5 = .ok (.iload_n 2, 1) := by decide +kernel
theorem dX6_pairOn_6 : decode cX6_pairOn 6 = .ok (.istore 4, 2) := by decide +kernel
theorem dX6_pairOn_8 : decode cX6_pairOn 8 = .ok (.iconst 0, 1) := by decide +kernel
theorem dX6_pairOn_9 : decode cX6_pairOn 9 = .ok (.istore 5, 2) := by decide +kernel
theorem dX6_pairOn_11 : decode cX6_pairOn 11 = .ok (.iload 5, 2) := by decide +kernel
theorem dX6_pairOn_13 : decode cX6_pairOn 13 = .ok (.aload_n 0, 1) := by decide +kernel
theorem dX6_pairOn_14 : decode cX6_pairOn 14 = .ok (.getfield 17, 3) := by decide +kernel
theorem dX6_pairOn_17 : decode cX6_pairOn 17 = .ok (.if_icmp .ge 72, 3) := by decide +kernel
theorem dX6_pairOn_20 : decode cX6_pairOn 20 = .ok (.aload_n 0, 1) := by decide +kernel
theorem dX6_pairOn_21 : decode cX6_pairOn 21 = .ok (.iload 5, 2) := by decide +kernel
theorem dX6_pairOn_23 : decode cX6_pairOn 23 = .ok (.invokevirtual 28, 3) := by decide +kernel
theorem dX6_pairOn_26 : decode cX6_pairOn 26 = .ok (.astore 6, 2) := by decide +kernel
theorem dX6_pairOn_28 : decode cX6_pairOn 28 = .ok (.aload 6, 2) := by decide +kernel
theorem dX6_pairOn_30 : decode cX6_pairOn 30 = .ok (.ifnull 53, 3) := by decide +kernel
theorem dX6_pairOn_33 : decode cX6_pairOn 33 = .ok (.aload 6, 2) := by decide +kernel
theorem dX6_pairOn_35 : decode cX6_pairOn 35 = .ok (.iload_n 1, 1) := by decide +kernel
theorem dX6_pairOn_36 : decode cX6_pairOn 36 = .ok (.invokevirtual 104, 3) := by decide +kernel
theorem dX6_pairOn_39 : decode cX6_pairOn 39 = .ok (.ifCond .eq 44, 3) := by decide +kernel
theorem dX6_pairOn_42 : decode cX6_pairOn 42 = .ok (.aload_n 0, 1) := by decide +kernel
theorem dX6_pairOn_43 : decode cX6_pairOn 43 = .ok (.aload 6, 2) := by decide +kernel
theorem dX6_pairOn_45 : decode cX6_pairOn 45 = .ok (.invokevirtual 129, 3) := by decide +kernel
theorem dX6_pairOn_48 : decode cX6_pairOn 48 = .ok (.istore 7, 2) := by decide +kernel
theorem dX6_pairOn_50 : decode cX6_pairOn 50 = .ok (.iload 4, 2) := by decide +kernel
theorem dX6_pairOn_52 : decode cX6_pairOn 52 = .ok (.iload 7, 2) := by decide +kernel
theorem dX6_pairOn_54 : decode cX6_pairOn 54 = .ok (.if_icmp .ge 22, 3) := by decide +kernel
theorem dX6_pairOn_57 : decode cX6_pairOn 57 = .ok (.iload_n 3, 1) := by decide +kernel
theorem dX6_pairOn_58 : decode cX6_pairOn 58 = .ok (.ifCond .ne 8, 3) := by decide +kernel
theorem dX6_pairOn_61 : decode cX6_pairOn 61 = .ok (.iload 5, 2) := by decide +kernel
theorem dX6_pairOn_63 : decode cX6_pairOn 63 = .ok (.goto 12, 3) := by decide +kernel
theorem dX6_pairOn_66 : decode cX6_pairOn 66 = .ok (.aload_n 0, 1) := by decide +kernel
theorem dX6_pairOn_67 : decode cX6_pairOn 67 = .ok (.aload 6, 2) := by decide +kernel
theorem dX6_pairOn_69 : decode cX6_pairOn 69 = .ok (.iload 4, 2) := by decide +kernel
theorem dX6_pairOn_71 : decode cX6_pairOn 71 = .ok (.iload_n 1, 1) := by decide +kernel
theorem dX6_pairOn_72 : decode cX6_pairOn 72 = .ok (.invokevirtual 132, 3) := by decide +kernel
theorem dX6_pairOn_75 : decode cX6_pairOn 75 = .ok (.ireturn, 1) := by decide +kernel
theorem dX6_pairOn_76 : decode cX6_pairOn 76 = .ok (.iload 4, 2) := by decide +kernel
theorem dX6_pairOn_78 : decode cX6_pairOn 78 = .ok (.iload 7, 2) := by decide +kernel
theorem dX6_pairOn_80 : decode cX6_pairOn 80 = .ok (.isub, 1) := by decide +kernel
theorem dX6_pairOn_81 : decode cX6_pairOn 81 = .ok (.istore 4, 2) := by decide +kernel
theorem dX6_pairOn_83 : decode cX6_pairOn 83 = .ok (.iinc 5 1, 3) := by decide +kernel
theorem dX6_pairOn_86 : decode cX6_pairOn 86 = .ok (.goto (-75), 3) := by decide +kernel
theorem dX6_pairOn_89 : decode cX6_pairOn 89 = .ok (.iconst (-1), 1) := by decide +kernel
theorem dX6_pairOn_90 : decode cX6_pairOn 90 = .ok (.ireturn, 1) := by decide +kernel
theorem dX6_partnerOf_0 : decode cX6_partnerOf 0 = .ok (.iload_n 2, 1) := by decide +kernel
theorem dX6_partnerOf_1 : decode cX6_partnerOf 1 = .ok (.istore 4, 2) := by decide +kernel
theorem dX6_partnerOf_3 : decode cX6_partnerOf 3 = .ok (.aload_n 1, 1) := by decide +kernel
theorem dX6_partnerOf_4 : decode cX6_partnerOf 4 = .ok (.getfield 47, 3) := by decide +kernel
theorem dX6_partnerOf_7 : decode cX6_partnerOf 7 = .ok (.iconst 1, 1) := by decide +kernel
theorem dX6_partnerOf_8 : decode cX6_partnerOf 8 = .ok (.iadd, 1) := by decide +kernel
theorem dX6_partnerOf_9 : decode cX6_partnerOf 9 = .ok (.istore 5, 2) := by decide +kernel
theorem dX6_partnerOf_11 : decode cX6_partnerOf 11 = .ok (.iload 5, 2) := by decide +kernel
theorem dX6_partnerOf_13 : decode cX6_partnerOf 13 = .ok (.aload_n 0, 1) := by decide +kernel
theorem dX6_partnerOf_14 : decode cX6_partnerOf 14 = .ok (.getfield 17, 3) := by decide +kernel
theorem dX6_partnerOf_17 : decode cX6_partnerOf 17 = .ok (.if_icmp .ge 51, 3) := by decide +kernel
theorem dX6_partnerOf_20 : decode cX6_partnerOf 20 = .ok (.aload_n 0, 1) := by decide +kernel
theorem dX6_partnerOf_21 : decode cX6_partnerOf 21 = .ok (.iload 5, 2) := by decide +kernel
theorem dX6_partnerOf_23 : decode cX6_partnerOf 23 = .ok (.invokevirtual 28, 3) := by decide +kernel
theorem dX6_partnerOf_26 : decode cX6_partnerOf 26 = .ok (.astore 6, 2) := by decide +kernel
theorem dX6_partnerOf_28 : decode cX6_partnerOf 28 = .ok (.aload 6, 2) := by decide +kernel
theorem dX6_partnerOf_30 : decode cX6_partnerOf 30 = .ok (.ifnull 32, 3) := by decide +kernel
theorem dX6_partnerOf_33 : decode cX6_partnerOf 33 = .ok (.aload_n 1, 1) := by decide +kernel
theorem dX6_partnerOf_34 : decode cX6_partnerOf 34 = .ok (.iload 5, 2) := by decide +kernel
theorem dX6_partnerOf_36 : decode cX6_partnerOf 36 = .ok (.invokevirtual 136, 3) := by decide +kernel
theorem dX6_partnerOf_39 : decode cX6_partnerOf 39 = .ok (.ifCond .eq 23, 3) := by decide +kernel
theorem dX6_partnerOf_42 : decode cX6_partnerOf 42 = .ok (.aload 6, 2) := by decide +kernel
theorem dX6_partnerOf_44 : decode cX6_partnerOf 44 = .ok (.iload_n 3, 1) := by decide +kernel
theorem dX6_partnerOf_45 : decode cX6_partnerOf 45 = .ok (.invokevirtual 104, 3) := by decide +kernel
theorem dX6_partnerOf_48 : decode cX6_partnerOf 48 = .ok (.ifCond .eq 14, 3) := by decide +kernel
theorem dX6_partnerOf_51 : decode cX6_partnerOf 51 = .ok (.iload 4, 2) := by decide +kernel
theorem dX6_partnerOf_53 : decode cX6_partnerOf 53 = .ok (.ifCond .ne 6, 3) := by decide +kernel
theorem dX6_partnerOf_56 : decode cX6_partnerOf 56 = .ok (.iload 5, 2) := by decide +kernel
theorem dX6_partnerOf_58 : decode cX6_partnerOf 58 = .ok (.ireturn, 1) := by decide +kernel
theorem dX6_partnerOf_59 : decode cX6_partnerOf 59 = .ok (.iinc 4 (-1), 3) := by decide +kernel
theorem dX6_partnerOf_62 : decode cX6_partnerOf 62 = .ok (.iinc 5 1, 3) := by decide +kernel
theorem dX6_partnerOf_65 : decode cX6_partnerOf 65 = .ok (.goto (-54), 3) := by decide +kernel
theorem dX6_partnerOf_68 : decode cX6_partnerOf 68 = .ok (.iconst (-1), 1) := by decide +kernel
theorem dX6_partnerOf_69 : decode cX6_partnerOf 69 = .ok (.ireturn, 1) := by decide +kernel
theorem dX6_leadOf_0 : decode cX6_leadOf 0 = .ok (.aconst_null, 1) := by decide +kernel
theorem dX6_leadOf_1 : decode cX6_leadOf 1 = .ok (.astore 5, 2) := by decide +kernel
theorem dX6_leadOf_3 : decode cX6_leadOf 3 = .ok (.iconst 0, 1) := by decide +kernel
theorem dX6_leadOf_4 : decode cX6_leadOf 4 = .ok (.istore 6, 2) := by decide +kernel
theorem dX6_leadOf_6 : decode cX6_leadOf 6 = .ok (.iload 6, 2) := by decide +kernel
theorem dX6_leadOf_8 : decode cX6_leadOf 8 = .ok (.aload_n 0, 1) := by decide +kernel
theorem dX6_leadOf_9 : decode cX6_leadOf 9 = .ok (.getfield 17, 3) := by decide +kernel
theorem dX6_leadOf_12 : decode cX6_leadOf 12 = .ok (.if_icmp .ge 70, 3) := by decide +kernel
theorem dX6_leadOf_15 : decode cX6_leadOf 15 = .ok (.aload_n 0, 1) := by decide +kernel
theorem dX6_leadOf_16 : decode cX6_leadOf 16 = .ok (.iload 6, 2) := by decide +kernel
theorem dX6_leadOf_18 : decode cX6_leadOf 18 = .ok (.invokevirtual 28, 3) := by decide +kernel
theorem dX6_leadOf_21 : decode cX6_leadOf 21 = .ok (.astore 7, 2) := by decide +kernel
theorem dX6_leadOf_23 : decode cX6_leadOf 23 = .ok (.aload 7, 2) := by decide +kernel
theorem dX6_leadOf_25 : decode cX6_leadOf 25 = .ok (.ifnull 51, 3) := by decide +kernel
theorem dX6_leadOf_28 : decode cX6_leadOf 28 = .ok (.aload 7, 2) := by decide +kernel
theorem dX6_leadOf_30 : decode cX6_leadOf 30 = .ok (.iload 4, 2) := by decide +kernel
theorem dX6_leadOf_32 : decode cX6_leadOf 32 = .ok (.invokevirtual 104, 3) := by decide +kernel
theorem dX6_leadOf_35 : decode cX6_leadOf 35 = .ok (.ifCond .eq 41, 3) := by decide +kernel
theorem dX6_leadOf_38 : decode cX6_leadOf 38 = .ok (.aload 7, 2) := by decide +kernel
theorem dX6_leadOf_40 : decode cX6_leadOf 40 = .ok (.lload_n 1, 1) := by decide +kernel
theorem dX6_leadOf_41 : decode cX6_leadOf 41 = .ok (.iload_n 3, 1) := by decide +kernel
theorem dX6_leadOf_42 : decode cX6_leadOf 42 = .ok (.invokevirtual 139, 3) := by decide +kernel
theorem dX6_leadOf_45 : decode cX6_leadOf 45 = .ok (.ifCond .eq 31, 3) := by decide +kernel
theorem dX6_leadOf_48 : decode cX6_leadOf 48 = .ok (.aload 5, 2) := by decide +kernel
theorem dX6_leadOf_50 : decode cX6_leadOf 50 = .ok (.ifnull 22, 3) := by decide +kernel
theorem dX6_leadOf_53 : decode cX6_leadOf 53 = .ok (.aload 7, 2) := by decide +kernel
theorem dX6_leadOf_55 : decode cX6_leadOf 55 = .ok (.getfield 32, 3) := by decide +kernel
theorem dX6_leadOf_58 : decode cX6_leadOf 58 = .ok (.invokestatic 143, 3) := by decide +kernel
theorem dX6_leadOf_61 : decode cX6_leadOf 61 = .ok (.aload 5, 2) := by decide +kernel
theorem dX6_leadOf_63 : decode cX6_leadOf 63 = .ok (.getfield 32, 3) := by decide +kernel
theorem dX6_leadOf_66 : decode cX6_leadOf 66 = .ok (.invokestatic 143, 3) := by decide +kernel
theorem dX6_leadOf_69 : decode cX6_leadOf 69 = .ok (.if_icmp .ge 7, 3) := by decide +kernel
theorem dX6_leadOf_72 : decode cX6_leadOf 72 = .ok (.aload 7, 2) := by decide +kernel
theorem dX6_leadOf_74 : decode cX6_leadOf 74 = .ok (.astore 5, 2) := by decide +kernel
theorem dX6_leadOf_76 : decode cX6_leadOf 76 = .ok (.iinc 6 1, 3) := by decide +kernel
theorem dX6_leadOf_79 : decode cX6_leadOf 79 = .ok (.goto (-73), 3) := by decide +kernel
theorem dX6_leadOf_82 : decode cX6_leadOf 82 = .ok (.aload 5, 2) := by decide +kernel
theorem dX6_leadOf_84 : decode cX6_leadOf 84 = .ok (.areturn, 1) := by decide +kernel
theorem dX6_rankOf_0 : decode cX6_rankOf 0 = .ok (.iload_n 0, 1) := by decide +kernel
theorem dX6_rankOf_1 : decode cX6_rankOf 1 = .ok (.tableswitch 37 0 3 #[33, 31, 37, 35], 31) := by decide +kernel
theorem dX6_rankOf_32 : decode cX6_rankOf 32 = .ok (.iconst 0, 1) := by decide +kernel
theorem dX6_rankOf_33 : decode cX6_rankOf 33 = .ok (.ireturn, 1) := by decide +kernel
theorem dX6_rankOf_34 : decode cX6_rankOf 34 = .ok (.iconst 1, 1) := by decide +kernel
theorem dX6_rankOf_35 : decode cX6_rankOf 35 = .ok (.ireturn, 1) := by decide +kernel
theorem dX6_rankOf_36 : decode cX6_rankOf 36 = .ok (.iconst 2, 1) := by decide +kernel
theorem dX6_rankOf_37 : decode cX6_rankOf 37 = .ok (.ireturn, 1) := by decide +kernel
theorem dX6_rankOf_38 : decode cX6_rankOf 38 = .ok (.iconst 3, 1) := by decide +kernel
theorem dX6_rankOf_39 : decode cX6_rankOf 39 = .ok (.ireturn, 1) := by decide +kernel
theorem dX6_read_0 : decode cX6_read 0 = .ok (.aload_n 0, 1) := by decide +kernel
theorem dX6_read_1 : decode cX6_read 1 = .ok (.getfield 24, 3) := by decide +kernel
theorem dX6_read_4 : decode cX6_read 4 = .ok (.invokevirtual 147, 3) := by decide +kernel
theorem dX6_read_7 : decode cX6_read 7 = .ok (.iconst 0, 1) := by decide +kernel
theorem dX6_read_8 : decode cX6_read 8 = .ok (.istore 5, 2) := by decide +kernel
theorem dX6_read_10 : decode cX6_read 10 = .ok (.iload 5, 2) := by decide +kernel
theorem dX6_read_12 : decode cX6_read 12 = .ok (.aload_n 0, 1) := by decide +kernel
theorem dX6_read_13 : decode cX6_read 13 = .ok (.getfield 17, 3) := by decide +kernel
theorem dX6_read_16 : decode cX6_read 16 = .ok (.if_icmp .ge 52, 3) := by decide +kernel
theorem dX6_read_19 : decode cX6_read 19 = .ok (.aload_n 0, 1) := by decide +kernel
theorem dX6_read_20 : decode cX6_read 20 = .ok (.iload 5, 2) := by decide +kernel
theorem dX6_read_22 : decode cX6_read 22 = .ok (.invokevirtual 28, 3) := by decide +kernel
theorem dX6_read_25 : decode cX6_read 25 = .ok (.astore 6, 2) := by decide +kernel
theorem dX6_read_27 : decode cX6_read 27 = .ok (.aload 6, 2) := by decide +kernel
theorem dX6_read_29 : decode cX6_read 29 = .ok (.ifnull 33, 3) := by decide +kernel
theorem dX6_read_32 : decode cX6_read 32 = .ok (.aload 6, 2) := by decide +kernel
theorem dX6_read_34 : decode cX6_read 34 = .ok (.iload 4, 2) := by decide +kernel
theorem dX6_read_36 : decode cX6_read 36 = .ok (.invokevirtual 104, 3) := by decide +kernel
theorem dX6_read_39 : decode cX6_read 39 = .ok (.ifCond .eq 23, 3) := by decide +kernel
theorem dX6_read_42 : decode cX6_read 42 = .ok (.aload 6, 2) := by decide +kernel
theorem dX6_read_44 : decode cX6_read 44 = .ok (.lload_n 1, 1) := by decide +kernel
theorem dX6_read_45 : decode cX6_read 45 = .ok (.iload_n 3, 1) := by decide +kernel
theorem dX6_read_46 : decode cX6_read 46 = .ok (.invokevirtual 150, 3) := by decide +kernel
theorem dX6_read_49 : decode cX6_read 49 = .ok (.ifCond .eq 13, 3) := by decide +kernel
theorem dX6_read_52 : decode cX6_read 52 = .ok (.aload_n 0, 1) := by decide +kernel
theorem dX6_read_53 : decode cX6_read 53 = .ok (.getfield 24, 3) := by decide +kernel
theorem dX6_read_56 : decode cX6_read 56 = .ok (.aload 6, 2) := by decide +kernel
theorem dX6_read_58 : decode cX6_read 58 = .ok (.iload_n 3, 1) := by decide +kernel
theorem dX6_read_59 : decode cX6_read 59 = .ok (.invokevirtual 153, 3) := by decide +kernel
theorem dX6_read_62 : decode cX6_read 62 = .ok (.iinc 5 1, 3) := by decide +kernel
theorem dX6_read_65 : decode cX6_read 65 = .ok (.goto (-55), 3) := by decide +kernel
theorem dX6_read_68 : decode cX6_read 68 = .ok (.aload_n 0, 1) := by decide +kernel
theorem dX6_read_69 : decode cX6_read 69 = .ok (.getfield 24, 3) := by decide +kernel
theorem dX6_read_72 : decode cX6_read 72 = .ok (.areturn, 1) := by decide +kernel
theorem dX6_roomOf_0 : decode cX6_roomOf 0 = .ok (.lconst 0, 1) := by decide +kernel
theorem dX6_roomOf_1 : decode cX6_roomOf 1 = .ok (.lstore_n 3, 1) := by decide +kernel
theorem dX6_roomOf_2 : decode cX6_roomOf 2 = .ok (.iconst 0, 1) := by decide +kernel
theorem dX6_roomOf_3 : decode cX6_roomOf 3 = .ok (.istore 5, 2) := by decide +kernel
theorem dX6_roomOf_5 : decode cX6_roomOf 5 = .ok (.iload 5, 2) := by decide +kernel
theorem dX6_roomOf_7 : decode cX6_roomOf 7 = .ok (.aload_n 0, 1) := by decide +kernel
theorem dX6_roomOf_8 : decode cX6_roomOf 8 = .ok (.getfield 17, 3) := by decide +kernel
theorem dX6_roomOf_11 : decode cX6_roomOf 11 = .ok (.if_icmp .ge 40, 3) := by decide +kernel
theorem dX6_roomOf_14 : decode cX6_roomOf 14 = .ok (.aload_n 0, 1) := by decide +kernel
theorem dX6_roomOf_15 : decode cX6_roomOf 15 = .ok (.iload 5, 2) := by decide +kernel
theorem dX6_roomOf_17 : decode cX6_roomOf 17 = .ok (.invokevirtual 157, 3) := by decide +kernel
theorem dX6_roomOf_20 : decode cX6_roomOf 20 = .ok (.astore 6, 2) := by decide +kernel
theorem dX6_roomOf_22 : decode cX6_roomOf 22 = .ok (.aload 6, 2) := by decide +kernel
theorem dX6_roomOf_24 : decode cX6_roomOf 24 = .ok (.ifnull 21, 3) := by decide +kernel
theorem dX6_roomOf_27 : decode cX6_roomOf 27 = .ok (.aload 6, 2) := by decide +kernel
theorem dX6_roomOf_29 : decode cX6_roomOf 29 = .ok (.getfield 56, 3) := by decide +kernel
theorem dX6_roomOf_32 : decode cX6_roomOf 32 = .ok (.iload_n 1, 1) := by decide +kernel
theorem dX6_roomOf_33 : decode cX6_roomOf 33 = .ok (.if_icmp .ne 12, 3) := by decide +kernel
theorem dX6_roomOf_36 : decode cX6_roomOf 36 = .ok (.lload_n 3, 1) := by decide +kernel
theorem dX6_roomOf_37 : decode cX6_roomOf 37 = .ok (.aload 6, 2) := by decide +kernel
theorem dX6_roomOf_39 : decode cX6_roomOf 39 = .ok (.iload_n 2, 1) := by decide +kernel
theorem dX6_roomOf_40 : decode cX6_roomOf 40 = .ok (.invokevirtual 160, 3) := by decide +kernel
theorem dX6_roomOf_43 : decode cX6_roomOf 43 = .ok (.ladd, 1) := by decide +kernel
theorem dX6_roomOf_44 : decode cX6_roomOf 44 = .ok (.lstore_n 3, 1) := by decide +kernel
theorem dX6_roomOf_45 : decode cX6_roomOf 45 = .ok (.iinc 5 1, 3) := by decide +kernel
theorem dX6_roomOf_48 : decode cX6_roomOf 48 = .ok (.goto (-43), 3) := by decide +kernel
theorem dX6_roomOf_51 : decode cX6_roomOf 51 = .ok (.lload_n 3, 1) := by decide +kernel
theorem dX6_roomOf_52 : decode cX6_roomOf 52 = .ok (.lreturn, 1) := by decide +kernel
theorem dX6_nextTurn_0 : decode cX6_nextTurn 0 = .ok (.sipush 2001, 3) := by decide +kernel
theorem dX6_nextTurn_3 : decode cX6_nextTurn 3 = .ok (.istore_n 3, 1) := by decide +kernel
theorem dX6_nextTurn_4 : decode cX6_nextTurn 4 = .ok (.iconst 0, 1) := by decide +kernel
theorem dX6_nextTurn_5 : decode cX6_nextTurn 5 = .ok (.istore 4, 2) := by decide +kernel
theorem dX6_nextTurn_7 : decode cX6_nextTurn 7 = .ok (.iload 4, 2) := by decide +kernel
theorem dX6_nextTurn_9 : decode cX6_nextTurn 9 = .ok (.aload_n 0, 1) := by decide +kernel
theorem dX6_nextTurn_10 : decode cX6_nextTurn 10 = .ok (.getfield 17, 3) := by decide +kernel
theorem dX6_nextTurn_13 : decode cX6_nextTurn 13 = .ok (.if_icmp .ge 72, 3) := by decide +kernel
theorem dX6_nextTurn_16 : decode cX6_nextTurn 16 = .ok (.aload_n 0, 1) := by decide +kernel
theorem dX6_nextTurn_17 : decode cX6_nextTurn 17 = .ok (.iload 4, 2) := by decide +kernel
theorem dX6_nextTurn_19 : decode cX6_nextTurn 19 = .ok (.invokevirtual 157, 3) := by decide +kernel
theorem dX6_nextTurn_22 : decode cX6_nextTurn 22 = .ok (.astore 5, 2) := by decide +kernel
theorem dX6_nextTurn_24 : decode cX6_nextTurn 24 = .ok (.aload 5, 2) := by decide +kernel
theorem dX6_nextTurn_26 : decode cX6_nextTurn 26 = .ok (.ifnull 53, 3) := by decide +kernel
theorem dX6_nextTurn_29 : decode cX6_nextTurn 29 = .ok (.aload 5, 2) := by decide +kernel
theorem dX6_nextTurn_31 : decode cX6_nextTurn 31 = .ok (.getfield 56, 3) := by decide +kernel
theorem dX6_nextTurn_34 : decode cX6_nextTurn 34 = .ok (.iload_n 1, 1) := by decide +kernel
theorem dX6_nextTurn_35 : decode cX6_nextTurn 35 = .ok (.if_icmp .ne 44, 3) := by decide +kernel
theorem dX6_nextTurn_38 : decode cX6_nextTurn 38 = .ok (.iload_n 3, 1) := by decide +kernel
theorem dX6_nextTurn_39 : decode cX6_nextTurn 39 = .ok (.aload 5, 2) := by decide +kernel
theorem dX6_nextTurn_41 : decode cX6_nextTurn 41 = .ok (.getfield 53, 3) := by decide +kernel
theorem dX6_nextTurn_44 : decode cX6_nextTurn 44 = .ok (.invokestatic 164, 3) := by decide +kernel
theorem dX6_nextTurn_47 : decode cX6_nextTurn 47 = .ok (.iload_n 2, 1) := by decide +kernel
theorem dX6_nextTurn_48 : decode cX6_nextTurn 48 = .ok (.invokestatic 167, 3) := by decide +kernel
theorem dX6_nextTurn_51 : decode cX6_nextTurn 51 = .ok (.istore_n 3, 1) := by decide +kernel
theorem dX6_nextTurn_52 : decode cX6_nextTurn 52 = .ok (.aload 5, 2) := by decide +kernel
theorem dX6_nextTurn_54 : decode cX6_nextTurn 54 = .ok (.getfield 75, 3) := by decide +kernel
theorem dX6_nextTurn_57 : decode cX6_nextTurn 57 = .ok (.iconst (-1), 1) := by decide +kernel
theorem dX6_nextTurn_58 : decode cX6_nextTurn 58 = .ok (.if_icmp .ne 7, 3) := by decide +kernel
theorem dX6_nextTurn_61 : decode cX6_nextTurn 61 = .ok (.iload_n 3, 1) := by decide +kernel
theorem dX6_nextTurn_62 : decode cX6_nextTurn 62 = .ok (.goto 16, 3) := by decide +kernel
theorem dX6_nextTurn_65 : decode cX6_nextTurn 65 = .ok (.iload_n 3, 1) := by decide +kernel
theorem dX6_nextTurn_66 : decode cX6_nextTurn 66 = .ok (.aload 5, 2) := by decide +kernel
theorem dX6_nextTurn_68 : decode cX6_nextTurn 68 = .ok (.getfield 75, 3) := by decide +kernel
theorem dX6_nextTurn_71 : decode cX6_nextTurn 71 = .ok (.invokestatic 164, 3) := by decide +kernel
theorem dX6_nextTurn_74 : decode cX6_nextTurn 74 = .ok (.iload_n 2, 1) := by decide +kernel
theorem dX6_nextTurn_75 : decode cX6_nextTurn 75 = .ok (.invokestatic 167, 3) := by decide +kernel
theorem dX6_nextTurn_78 : decode cX6_nextTurn 78 = .ok (.istore_n 3, 1) := by decide +kernel
theorem dX6_nextTurn_79 : decode cX6_nextTurn 79 = .ok (.iinc 4 1, 3) := by decide +kernel
theorem dX6_nextTurn_82 : decode cX6_nextTurn 82 = .ok (.goto (-75), 3) := by decide +kernel
theorem dX6_nextTurn_85 : decode cX6_nextTurn 85 = .ok (.iload_n 3, 1) := by decide +kernel
theorem dX6_nextTurn_86 : decode cX6_nextTurn 86 = .ok (.ireturn, 1) := by decide +kernel
theorem dX6_sooner_0 : decode cX6_sooner 0 = .ok (.iload_n 1, 1) := by decide +kernel
theorem dX6_sooner_1 : decode cX6_sooner 1 = .ok (.iload_n 2, 1) := by decide +kernel
theorem dX6_sooner_2 : decode cX6_sooner 2 = .ok (.if_icmp .le 12, 3) := by decide +kernel
theorem dX6_sooner_5 : decode cX6_sooner 5 = .ok (.iload_n 1, 1) := by decide +kernel
theorem dX6_sooner_6 : decode cX6_sooner 6 = .ok (.iload_n 0, 1) := by decide +kernel
theorem dX6_sooner_7 : decode cX6_sooner 7 = .ok (.if_icmp .ge 7, 3) := by decide +kernel
theorem dX6_sooner_10 : decode cX6_sooner 10 = .ok (.iload_n 1, 1) := by decide +kernel
theorem dX6_sooner_11 : decode cX6_sooner 11 = .ok (.goto 4, 3) := by decide +kernel
theorem dX6_sooner_14 : decode cX6_sooner 14 = .ok (.iload_n 0, 1) := by decide +kernel
theorem dX6_sooner_15 : decode cX6_sooner 15 = .ok (.ireturn, 1) := by decide +kernel
theorem dX6_clashesOn_0 : decode cX6_clashesOn 0 = .ok (.iconst 0, 1) := by decide +kernel
theorem dX6_clashesOn_1 : decode cX6_clashesOn 1 = .ok (.istore_n 3, 1) := by decide +kernel
theorem dX6_clashesOn_2 : decode cX6_clashesOn 2 = .ok (.iload_n 3, 1) := by decide +kernel
theorem dX6_clashesOn_3 : decode cX6_clashesOn 3 = .ok (.aload_n 0, 1) := by decide +kernel
theorem dX6_clashesOn_4 : decode cX6_clashesOn 4 = .ok (.getfield 17, 3) := by decide +kernel
theorem dX6_clashesOn_7 : decode cX6_clashesOn 7 = .ok (.if_icmp .ge 41, 3) := by decide +kernel
theorem dX6_clashesOn_10 : decode cX6_clashesOn 10 = .ok (.aload_n 0, 1) := by decide +kernel
theorem dX6_clashesOn_11 : decode cX6_clashesOn 11 = .ok (.iload_n 3, 1) := by decide +kernel
theorem dX6_clashesOn_12 : decode cX6_clashesOn 12 = .ok (.invokevirtual 28, 3) := by decide +kernel
theorem dX6_clashesOn_15 : decode cX6_clashesOn 15 = .ok (.astore 4, 2) := by decide +kernel
theorem dX6_clashesOn_17 : decode cX6_clashesOn 17 = .ok (.aload 4, 2) := by decide +kernel
theorem dX6_clashesOn_19 : decode cX6_clashesOn 19 = .ok (.ifnull 23, 3) := by decide +kernel
theorem dX6_clashesOn_22 : decode cX6_clashesOn 22 = .ok (.aload 4, 2) := by decide +kernel
theorem dX6_clashesOn_24 : decode cX6_clashesOn 24 = .ok (.iload_n 2, 1) := by decide +kernel
theorem dX6_clashesOn_25 : decode cX6_clashesOn 25 = .ok (.invokevirtual 104, 3) := by decide +kernel
theorem dX6_clashesOn_28 : decode cX6_clashesOn 28 = .ok (.ifCond .eq 14, 3) := by decide +kernel
theorem dX6_clashesOn_31 : decode cX6_clashesOn 31 = .ok (.aload 4, 2) := by decide +kernel
theorem dX6_clashesOn_33 : decode cX6_clashesOn 33 = .ok (.aload_n 1, 1) := by decide +kernel
theorem dX6_clashesOn_34 : decode cX6_clashesOn 34 = .ok (.invokevirtual 39, 3) := by decide +kernel
theorem dX6_clashesOn_37 : decode cX6_clashesOn 37 = .ok (.ifCond .eq 5, 3) := by decide +kernel
theorem dX6_clashesOn_40 : decode cX6_clashesOn 40 = .ok (.iconst 1, 1) := by decide +kernel
theorem dX6_clashesOn_41 : decode cX6_clashesOn 41 = .ok (.ireturn, 1) := by decide +kernel
theorem dX6_clashesOn_42 : decode cX6_clashesOn 42 = .ok (.iinc 3 1, 3) := by decide +kernel
theorem dX6_clashesOn_45 : decode cX6_clashesOn 45 = .ok (.goto (-43), 3) := by decide +kernel
theorem dX6_clashesOn_48 : decode cX6_clashesOn 48 = .ok (.iconst 0, 1) := by decide +kernel
theorem dX6_clashesOn_49 : decode cX6_clashesOn 49 = .ok (.ireturn, 1) := by decide +kernel
theorem dX7_init_0 : decode cX7_init 0 = .ok (.aload_n 0, 1) := by decide +kernel
theorem dX7_init_1 : decode cX7_init 1 = .ok (.invokespecial 1, 3) := by decide +kernel
theorem dX7_init_4 : decode cX7_init 4 = .ok (.aload_n 0, 1) := by decide +kernel
theorem dX7_init_5 : decode cX7_init 5 = .ok (.iload_n 1, 1) := by decide +kernel
theorem dX7_init_6 : decode cX7_init 6 = .ok (.putfield 7, 3) := by decide +kernel
theorem dX7_init_9 : decode cX7_init 9 = .ok (.aload_n 0, 1) := by decide +kernel
theorem dX7_init_10 : decode cX7_init 10 = .ok (.iload_n 2, 1) := by decide +kernel
theorem dX7_init_11 : decode cX7_init 11 = .ok (.putfield 13, 3) := by decide +kernel
theorem dX7_init_14 : decode cX7_init 14 = .ok (.aload_n 0, 1) := by decide +kernel
theorem dX7_init_15 : decode cX7_init 15 = .ok (.aload_n 3, 1) := by decide +kernel
theorem dX7_init_16 : decode cX7_init 16 = .ok (.putfield 16, 3) := by decide +kernel
theorem dX7_init_19 : decode cX7_init 19 = .ok (.return_, 1) := by decide +kernel
theorem dX8_init_0 : decode cX8_init 0 = .ok (.aload_n 0, 1) := by decide +kernel
theorem dX8_init_1 : decode cX8_init 1 = .ok (.invokespecial 3, 3) := by decide +kernel
theorem dX8_init_4 : decode cX8_init 4 = .ok (.return_, 1) := by decide +kernel
theorem dX8_clear_0 : decode cX8_clear 0 = .ok (.aload_n 0, 1) := by decide +kernel
theorem dX8_clear_1 : decode cX8_clear 1 = .ok (.iconst 0, 1) := by decide +kernel
theorem dX8_clear_2 : decode cX8_clear 2 = .ok (.putfield 9, 3) := by decide +kernel
theorem dX8_clear_5 : decode cX8_clear 5 = .ok (.aload_n 0, 1) := by decide +kernel
theorem dX8_clear_6 : decode cX8_clear 6 = .ok (.iconst 0, 1) := by decide +kernel
theorem dX8_clear_7 : decode cX8_clear 7 = .ok (.putfield 15, 3) := by decide +kernel
theorem dX8_clear_10 : decode cX8_clear 10 = .ok (.aload_n 0, 1) := by decide +kernel
theorem dX8_clear_11 : decode cX8_clear 11 = .ok (.iconst (-1), 1) := by decide +kernel
theorem dX8_clear_12 : decode cX8_clear 12 = .ok (.putfield 19, 3) := by decide +kernel
theorem dX8_clear_15 : decode cX8_clear 15 = .ok (.aload_n 0, 1) := by decide +kernel
theorem dX8_clear_16 : decode cX8_clear 16 = .ok (.iconst (-1), 1) := by decide +kernel
theorem dX8_clear_17 : decode cX8_clear 17 = .ok (.putfield 22, 3) := by decide +kernel
theorem dX8_clear_20 : decode cX8_clear 20 = .ok (.return_, 1) := by decide +kernel
theorem dX8_add_0 : decode cX8_add 0 = .ok (.aload_n 0, 1) := by decide +kernel
theorem dX8_add_1 : decode cX8_add 1 = .ok (.aload_n 0, 1) := by decide +kernel
theorem dX8_add_2 : decode cX8_add 2 = .ok (.getfield 9, 3) := by decide +kernel
theorem dX8_add_5 : decode cX8_add 5 = .ok (.ifCond .ne 11, 3) := by decide +kernel
theorem dX8_add_8 : decode cX8_add 8 = .ok (.iload_n 2, 1) := by decide +kernel
theorem dX8_add_9 : decode cX8_add 9 = .ok (.aload_n 1, 1) := by decide +kernel
theorem dX8_add_10 : decode cX8_add 10 = .ok (.getfield 25, 3) := by decide +kernel
theorem dX8_add_13 : decode cX8_add 13 = .ok (.if_icmp .lt 7, 3) := by decide +kernel
theorem dX8_add_16 : decode cX8_add 16 = .ok (.iconst 1, 1) := by decide +kernel
theorem dX8_add_17 : decode cX8_add 17 = .ok (.goto 4, 3) := by decide +kernel
theorem dX8_add_20 : decode cX8_add 20 = .ok (.iconst 0, 1) := by decide +kernel
theorem dX8_add_21 : decode cX8_add 21 = .ok (.putfield 9, 3) := by decide +kernel
theorem dX8_add_24 : decode cX8_add 24 = .ok (.iload_n 2, 1) := by decide +kernel
theorem dX8_add_25 : decode cX8_add 25 = .ok (.aload_n 1, 1) := by decide +kernel
theorem dX8_add_26 : decode cX8_add 26 = .ok (.getfield 30, 3) := by decide +kernel
theorem dX8_add_29 : decode cX8_add 29 = .ok (.if_icmp .ge 69, 3) := by decide +kernel
theorem dX8_add_32 : decode cX8_add 32 = .ok (.iconst 1, 1) := by decide +kernel
theorem dX8_add_33 : decode cX8_add 33 = .ok (.aload_n 1, 1) := by decide +kernel
theorem dX8_add_34 : decode cX8_add 34 = .ok (.getfield 25, 3) := by decide +kernel
theorem dX8_add_37 : decode cX8_add 37 = .ok (.iload_n 2, 1) := by decide +kernel
theorem dX8_add_38 : decode cX8_add 38 = .ok (.isub, 1) := by decide +kernel
theorem dX8_add_39 : decode cX8_add 39 = .ok (.invokestatic 33, 3) := by decide +kernel
theorem dX8_add_42 : decode cX8_add 42 = .ok (.istore_n 3, 1) := by decide +kernel
theorem dX8_add_43 : decode cX8_add 43 = .ok (.aload_n 0, 1) := by decide +kernel
theorem dX8_add_44 : decode cX8_add 44 = .ok (.aload_n 0, 1) := by decide +kernel
theorem dX8_add_45 : decode cX8_add 45 = .ok (.getfield 19, 3) := by decide +kernel
theorem dX8_add_48 : decode cX8_add 48 = .ok (.iconst (-1), 1) := by decide +kernel
theorem dX8_add_49 : decode cX8_add 49 = .ok (.if_icmp .ne 7, 3) := by decide +kernel
theorem dX8_add_52 : decode cX8_add 52 = .ok (.iload_n 3, 1) := by decide +kernel
theorem dX8_add_53 : decode cX8_add 53 = .ok (.goto 11, 3) := by decide +kernel
theorem dX8_add_56 : decode cX8_add 56 = .ok (.aload_n 0, 1) := by decide +kernel
theorem dX8_add_57 : decode cX8_add 57 = .ok (.getfield 19, 3) := by decide +kernel
theorem dX8_add_60 : decode cX8_add 60 = .ok (.iload_n 3, 1) := by decide +kernel
theorem dX8_add_61 : decode cX8_add 61 = .ok (.invokestatic 39, 3) := by decide +kernel
theorem dX8_add_64 : decode cX8_add 64 = .ok (.putfield 19, 3) := by decide +kernel
theorem dX8_add_67 : decode cX8_add 67 = .ok (.aload_n 0, 1) := by decide +kernel
theorem dX8_add_68 : decode cX8_add 68 = .ok (.aload_n 0, 1) := by decide +kernel
theorem dX8_add_69 : decode cX8_add 69 = .ok (.getfield 22, 3) := by decide +kernel
theorem dX8_add_72 : decode cX8_add 72 = .ok (.aload_n 1, 1) := by decide +kernel
theorem dX8_add_73 : decode cX8_add 73 = .ok (.getfield 30, 3) := by decide +kernel
theorem dX8_add_76 : decode cX8_add 76 = .ok (.iload_n 2, 1) := by decide +kernel
theorem dX8_add_77 : decode cX8_add 77 = .ok (.isub, 1) := by decide +kernel
theorem dX8_add_78 : decode cX8_add 78 = .ok (.invokestatic 33, 3) := by decide +kernel
theorem dX8_add_81 : decode cX8_add 81 = .ok (.putfield 22, 3) := by decide +kernel
theorem dX8_add_84 : decode cX8_add 84 = .ok (.aload_n 0, 1) := by decide +kernel
theorem dX8_add_85 : decode cX8_add 85 = .ok (.dup, 1) := by decide +kernel
theorem dX8_add_86 : decode cX8_add 86 = .ok (.getfield 15, 3) := by decide +kernel
theorem dX8_add_89 : decode cX8_add 89 = .ok (.aload_n 1, 1) := by decide +kernel
theorem dX8_add_90 : decode cX8_add 90 = .ok (.iload_n 2, 1) := by decide +kernel
theorem dX8_add_91 : decode cX8_add 91 = .ok (.invokevirtual 42, 3) := by decide +kernel
theorem dX8_add_94 : decode cX8_add 94 = .ok (.ior, 1) := by decide +kernel
theorem dX8_add_95 : decode cX8_add 95 = .ok (.putfield 15, 3) := by decide +kernel
theorem dX8_add_98 : decode cX8_add 98 = .ok (.return_, 1) := by decide +kernel
theorem dX8_answer_0 : decode cX8_answer 0 = .ok (.aload_n 0, 1) := by decide +kernel
theorem dX8_answer_1 : decode cX8_answer 1 = .ok (.getfield 9, 3) := by decide +kernel
theorem dX8_answer_4 : decode cX8_answer 4 = .ok (.ifCond .eq 17, 3) := by decide +kernel
theorem dX8_answer_7 : decode cX8_answer 7 = .ok (.aload_n 0, 1) := by decide +kernel
theorem dX8_answer_8 : decode cX8_answer 8 = .ok (.getfield 22, 3) := by decide +kernel
theorem dX8_answer_11 : decode cX8_answer 11 = .ok (.iconst (-1), 1) := by decide +kernel
theorem dX8_answer_12 : decode cX8_answer 12 = .ok (.if_icmp .ne 7, 3) := by decide +kernel
theorem dX8_answer_15 : decode cX8_answer 15 = .ok (.iconst 1, 1) := by decide +kernel
theorem dX8_answer_16 : decode cX8_answer 16 = .ok (.goto 4, 3) := by decide +kernel
theorem dX8_answer_19 : decode cX8_answer 19 = .ok (.iconst 2, 1) := by decide +kernel
theorem dX8_answer_20 : decode cX8_answer 20 = .ok (.ireturn, 1) := by decide +kernel
theorem dX8_answer_21 : decode cX8_answer 21 = .ok (.aload_n 0, 1) := by decide +kernel
theorem dX8_answer_22 : decode cX8_answer 22 = .ok (.getfield 22, 3) := by decide +kernel
theorem dX8_answer_25 : decode cX8_answer 25 = .ok (.iconst (-1), 1) := by decide +kernel
theorem dX8_answer_26 : decode cX8_answer 26 = .ok (.if_icmp .ne 7, 3) := by decide +kernel
theorem dX8_answer_29 : decode cX8_answer 29 = .ok (.iconst 3, 1) := by decide +kernel
theorem dX8_answer_30 : decode cX8_answer 30 = .ok (.goto 4, 3) := by decide +kernel
theorem dX8_answer_33 : decode cX8_answer 33 = .ok (.iconst 0, 1) := by decide +kernel
theorem dX8_answer_34 : decode cX8_answer 34 = .ok (.ireturn, 1) := by decide +kernel
theorem dX9_init_0 : decode cX9_init 0 = .ok (.aload_n 0, 1) := by decide +kernel
theorem dX9_init_1 : decode cX9_init 1 = .ok (.invokespecial 3, 3) := by decide +kernel
theorem dX9_init_4 : decode cX9_init 4 = .ok (.aload_n 0, 1) := by decide +kernel
theorem dX9_init_5 : decode cX9_init 5 = .ok (.aload_n 1, 1) := by decide +kernel
theorem dX9_init_6 : decode cX9_init 6 = .ok (.putfield 9, 3) := by decide +kernel
theorem dX9_init_9 : decode cX9_init 9 = .ok (.aload_n 0, 1) := by decide +kernel
theorem dX9_init_10 : decode cX9_init 10 = .ok (.bipush 16, 2) := by decide +kernel
theorem dX9_init_12 : decode cX9_init 12 = .ok (.anewarray 15, 3) := by decide +kernel
theorem dX9_init_15 : decode cX9_init 15 = .ok (.putfield 17, 3) := by decide +kernel
theorem dX9_init_18 : decode cX9_init 18 = .ok (.iconst 0, 1) := by decide +kernel
theorem dX9_init_19 : decode cX9_init 19 = .ok (.istore_n 2, 1) := by decide +kernel
theorem dX9_init_20 : decode cX9_init 20 = .ok (.iload_n 2, 1) := by decide +kernel
theorem dX9_init_21 : decode cX9_init 21 = .ok (.bipush 16, 2) := by decide +kernel
theorem dX9_init_23 : decode cX9_init 23 = .ok (.if_icmp .ge 23, 3) := by decide +kernel
theorem dX9_init_26 : decode cX9_init 26 = .ok (.aload_n 0, 1) := by decide +kernel
theorem dX9_init_27 : decode cX9_init 27 = .ok (.getfield 17, 3) := by decide +kernel
theorem dX9_init_30 : decode cX9_init 30 = .ok (.iload_n 2, 1) := by decide +kernel
theorem dX9_init_31 : decode cX9_init 31 = .ok (.new 15, 3) := by decide +kernel
theorem dX9_init_34 : decode cX9_init 34 = .ok (.dup, 1) := by decide +kernel
theorem dX9_init_35 : decode cX9_init 35 = .ok (.iload_n 2, 1) := by decide +kernel
theorem dX9_init_36 : decode cX9_init 36 = .ok (.invokespecial 21, 3) := by decide +kernel
theorem dX9_init_39 : decode cX9_init 39 = .ok (.aastore, 1) := by decide +kernel
theorem dX9_init_40 : decode cX9_init 40 = .ok (.iinc 2 1, 3) := by decide +kernel
theorem dX9_init_43 : decode cX9_init 43 = .ok (.goto (-23), 3) := by decide +kernel
theorem dX9_init_46 : decode cX9_init 46 = .ok (.aload_n 0, 1) := by decide +kernel
theorem dX9_init_47 : decode cX9_init 47 = .ok (.bipush 8, 2) := by decide +kernel
theorem dX9_init_49 : decode cX9_init 49 = .ok (.anewarray 24, 3) := by decide +kernel
theorem dX9_init_52 : decode cX9_init 52 = .ok (.putfield 26, 3) := by decide +kernel
theorem dX9_init_55 : decode cX9_init 55 = .ok (.aload_n 0, 1) := by decide +kernel
theorem dX9_init_56 : decode cX9_init 56 = .ok (.sipush 249, 3) := by decide +kernel
theorem dX9_init_59 : decode cX9_init 59 = .ok (.newarray .int, 2) := by decide +kernel
theorem dX9_init_61 : decode cX9_init 61 = .ok (.putfield 30, 3) := by decide +kernel
theorem dX9_init_64 : decode cX9_init 64 = .ok (.aload_n 0, 1) := by decide +kernel
theorem dX9_init_65 : decode cX9_init 65 = .ok (.sipush 249, 3) := by decide +kernel
theorem dX9_init_68 : decode cX9_init 68 = .ok (.newarray .long, 2) := by decide +kernel
theorem dX9_init_70 : decode cX9_init 70 = .ok (.putfield 34, 3) := by decide +kernel
theorem dX9_init_73 : decode cX9_init 73 = .ok (.return_, 1) := by decide +kernel
theorem dX9_demandOf_0 : decode cX9_demandOf 0 = .ok (.iload_n 1, 1) := by decide +kernel
theorem dX9_demandOf_1 : decode cX9_demandOf 1 = .ok (.ifCond .lt 21, 3) := by decide +kernel
theorem dX9_demandOf_4 : decode cX9_demandOf 4 = .ok (.iload_n 1, 1) := by decide +kernel
theorem dX9_demandOf_5 : decode cX9_demandOf 5 = .ok (.aload_n 0, 1) := by decide +kernel
theorem dX9_demandOf_6 : decode cX9_demandOf 6 = .ok (.getfield 17, 3) := by decide +kernel
theorem dX9_demandOf_9 : decode cX9_demandOf 9 = .ok (.arraylength, 1) := by decide +kernel
theorem dX9_demandOf_10 : decode cX9_demandOf 10 = .ok (.if_icmp .ge 12, 3) := by decide +kernel
theorem dX9_demandOf_13 : decode cX9_demandOf 13 = .ok (.aload_n 0, 1) := by decide +kernel
theorem dX9_demandOf_14 : decode cX9_demandOf 14 = .ok (.getfield 17, 3) := by decide +kernel
theorem dX9_demandOf_17 : decode cX9_demandOf 17 = .ok (.iload_n 1, 1) := by decide +kernel
theorem dX9_demandOf_18 : decode cX9_demandOf 18 = .ok (.aaload, 1) := by decide +kernel
theorem dX9_demandOf_19 : decode cX9_demandOf 19 = .ok (.goto 4, 3) := by decide +kernel
theorem dX9_demandOf_22 : decode cX9_demandOf 22 = .ok (.aconst_null, 1) := by decide +kernel
theorem dX9_demandOf_23 : decode cX9_demandOf 23 = .ok (.areturn, 1) := by decide +kernel
theorem dX9_optionAt_0 : decode cX9_optionAt 0 = .ok (.iload_n 1, 1) := by decide +kernel
theorem dX9_optionAt_1 : decode cX9_optionAt 1 = .ok (.ifCond .lt 29, 3) := by decide +kernel
theorem dX9_optionAt_4 : decode cX9_optionAt 4 = .ok (.iload_n 1, 1) := by decide +kernel
theorem dX9_optionAt_5 : decode cX9_optionAt 5 = .ok (.aload_n 0, 1) := by decide +kernel
theorem dX9_optionAt_6 : decode cX9_optionAt 6 = .ok (.getfield 38, 3) := by decide +kernel
theorem dX9_optionAt_9 : decode cX9_optionAt 9 = .ok (.if_icmp .ge 21, 3) := by decide +kernel
theorem dX9_optionAt_12 : decode cX9_optionAt 12 = .ok (.iload_n 1, 1) := by decide +kernel
theorem dX9_optionAt_13 : decode cX9_optionAt 13 = .ok (.aload_n 0, 1) := by decide +kernel
theorem dX9_optionAt_14 : decode cX9_optionAt 14 = .ok (.getfield 26, 3) := by decide +kernel
theorem dX9_optionAt_17 : decode cX9_optionAt 17 = .ok (.arraylength, 1) := by decide +kernel
theorem dX9_optionAt_18 : decode cX9_optionAt 18 = .ok (.if_icmp .ge 12, 3) := by decide +kernel
theorem dX9_optionAt_21 : decode cX9_optionAt 21 = .ok (.aload_n 0, 1) := by decide +kernel
theorem dX9_optionAt_22 : decode cX9_optionAt 22 = .ok (.getfield 26, 3) := by decide +kernel
theorem dX9_optionAt_25 : decode cX9_optionAt 25 = .ok (.iload_n 1, 1) := by decide +kernel
theorem dX9_optionAt_26 : decode cX9_optionAt 26 = .ok (.aaload, 1) := by decide +kernel
theorem dX9_optionAt_27 : decode cX9_optionAt 27 = .ok (.goto 4, 3) := by decide +kernel
theorem dX9_optionAt_30 : decode cX9_optionAt 30 = .ok (.aconst_null, 1) := by decide +kernel
theorem dX9_optionAt_31 : decode cX9_optionAt 31 = .ok (.areturn, 1) := by decide +kernel
theorem dX9_offer_0 : decode cX9_offer 0 = .ok (.aload_n 0, 1) := by decide +kernel
theorem dX9_offer_1 : decode cX9_offer 1 = .ok (.getfield 38, 3) := by decide +kernel
theorem dX9_offer_4 : decode cX9_offer 4 = .ok (.aload_n 0, 1) := by decide +kernel
theorem dX9_offer_5 : decode cX9_offer 5 = .ok (.getfield 26, 3) := by decide +kernel
theorem dX9_offer_8 : decode cX9_offer 8 = .ok (.arraylength, 1) := by decide +kernel
theorem dX9_offer_9 : decode cX9_offer 9 = .ok (.if_icmp .lt 6, 3) := by decide +kernel
theorem dX9_offer_12 : decode cX9_offer 12 = .ok (.bipush (-3), 2) := by decide +kernel
theorem dX9_offer_14 : decode cX9_offer 14 = .ok (.ireturn, 1) := by decide +kernel
theorem dX9_offer_15 : decode cX9_offer 15 = .ok (.aload_n 0, 1) := by decide +kernel
theorem dX9_offer_16 : decode cX9_offer 16 = .ok (.getfield 26, 3) := by decide +kernel
theorem dX9_offer_19 : decode cX9_offer 19 = .ok (.aload_n 0, 1) := by decide +kernel
theorem dX9_offer_20 : decode cX9_offer 20 = .ok (.getfield 38, 3) := by decide +kernel
theorem dX9_offer_23 : decode cX9_offer 23 = .ok (.aload_n 1, 1) := by decide +kernel
theorem dX9_offer_24 : decode cX9_offer 24 = .ok (.aastore, 1) := by decide +kernel
theorem dX9_offer_25 : decode cX9_offer 25 = .ok (.aload_n 0, 1) := by decide +kernel
theorem dX9_offer_26 : decode cX9_offer 26 = .ok (.dup, 1) := by decide +kernel
theorem dX9_offer_27 : decode cX9_offer 27 = .ok (.getfield 38, 3) := by decide +kernel
theorem dX9_offer_30 : decode cX9_offer 30 = .ok (.iconst 1, 1) := by decide +kernel
theorem dX9_offer_31 : decode cX9_offer 31 = .ok (.iadd, 1) := by decide +kernel
theorem dX9_offer_32 : decode cX9_offer 32 = .ok (.putfield 38, 3) := by decide +kernel
theorem dX9_offer_35 : decode cX9_offer 35 = .ok (.aload_n 0, 1) := by decide +kernel
theorem dX9_offer_36 : decode cX9_offer 36 = .ok (.getfield 38, 3) := by decide +kernel
theorem dX9_offer_39 : decode cX9_offer 39 = .ok (.iconst 1, 1) := by decide +kernel
theorem dX9_offer_40 : decode cX9_offer 40 = .ok (.isub, 1) := by decide +kernel
theorem dX9_offer_41 : decode cX9_offer 41 = .ok (.ireturn, 1) := by decide +kernel
theorem dX9_withdraw_0 : decode cX9_withdraw 0 = .ok (.iload_n 1, 1) := by decide +kernel
theorem dX9_withdraw_1 : decode cX9_withdraw 1 = .ok (.ifCond .lt 23, 3) := by decide +kernel
theorem dX9_withdraw_4 : decode cX9_withdraw 4 = .ok (.iload_n 1, 1) := by decide +kernel
theorem dX9_withdraw_5 : decode cX9_withdraw 5 = .ok (.aload_n 0, 1) := by decide +kernel
theorem dX9_withdraw_6 : decode cX9_withdraw 6 = .ok (.getfield 38, 3) := by decide +kernel
theorem dX9_withdraw_9 : decode cX9_withdraw 9 = .ok (.if_icmp .ge 15, 3) := by decide +kernel
theorem dX9_withdraw_12 : decode cX9_withdraw 12 = .ok (.aload_n 0, 1) := by decide +kernel
theorem dX9_withdraw_13 : decode cX9_withdraw 13 = .ok (.getfield 38, 3) := by decide +kernel
theorem dX9_withdraw_16 : decode cX9_withdraw 16 = .ok (.aload_n 0, 1) := by decide +kernel
theorem dX9_withdraw_17 : decode cX9_withdraw 17 = .ok (.getfield 26, 3) := by decide +kernel
theorem dX9_withdraw_20 : decode cX9_withdraw 20 = .ok (.arraylength, 1) := by decide +kernel
theorem dX9_withdraw_21 : decode cX9_withdraw 21 = .ok (.if_icmp .le 4, 3) := by decide +kernel
theorem dX9_withdraw_24 : decode cX9_withdraw 24 = .ok (.return_, 1) := by decide +kernel
theorem dX9_withdraw_25 : decode cX9_withdraw 25 = .ok (.iload_n 1, 1) := by decide +kernel
theorem dX9_withdraw_26 : decode cX9_withdraw 26 = .ok (.iconst 1, 1) := by decide +kernel
theorem dX9_withdraw_27 : decode cX9_withdraw 27 = .ok (.iadd, 1) := by decide +kernel
theorem dX9_withdraw_28 : decode cX9_withdraw 28 = .ok (.istore_n 2, 1) := by decide +kernel
theorem dX9_withdraw_29 : decode cX9_withdraw 29 = .ok (.iload_n 2, 1) := by decide +kernel
theorem dX9_withdraw_30 : decode cX9_withdraw 30 = .ok (.aload_n 0, 1) := by decide +kernel
theorem dX9_withdraw_31 : decode cX9_withdraw 31 = .ok (.getfield 38, 3) := by decide +kernel
theorem dX9_withdraw_34 : decode cX9_withdraw 34 = .ok (.if_icmp .ge 23, 3) := by decide +kernel
theorem dX9_withdraw_37 : decode cX9_withdraw 37 = .ok (.aload_n 0, 1) := by decide +kernel
theorem dX9_withdraw_38 : decode cX9_withdraw 38 = .ok (.getfield 26, 3) := by decide +kernel
theorem dX9_withdraw_41 : decode cX9_withdraw 41 = .ok (.iload_n 2, 1) := by decide +kernel
theorem dX9_withdraw_42 : decode cX9_withdraw 42 = .ok (.iconst 1, 1) := by decide +kernel
theorem dX9_withdraw_43 : decode cX9_withdraw 43 = .ok (.isub, 1) := by decide +kernel
theorem dX9_withdraw_44 : decode cX9_withdraw 44 = .ok (.aload_n 0, 1) := by decide +kernel
theorem dX9_withdraw_45 : decode cX9_withdraw 45 = .ok (.getfield 26, 3) := by decide +kernel
theorem dX9_withdraw_48 : decode cX9_withdraw 48 = .ok (.iload_n 2, 1) := by decide +kernel
theorem dX9_withdraw_49 : decode cX9_withdraw 49 = .ok (.aaload, 1) := by decide +kernel
theorem dX9_withdraw_50 : decode cX9_withdraw 50 = .ok (.aastore, 1) := by decide +kernel
theorem dX9_withdraw_51 : decode cX9_withdraw 51 = .ok (.iinc 2 1, 3) := by decide +kernel
theorem dX9_withdraw_54 : decode cX9_withdraw 54 = .ok (.goto (-25), 3) := by decide +kernel
theorem dX9_withdraw_57 : decode cX9_withdraw 57 = .ok (.aload_n 0, 1) := by decide +kernel
theorem dX9_withdraw_58 : decode cX9_withdraw 58 = .ok (.dup, 1) := by decide +kernel
theorem dX9_withdraw_59 : decode cX9_withdraw 59 = .ok (.getfield 38, 3) := by decide +kernel
theorem dX9_withdraw_62 : decode cX9_withdraw 62 = .ok (.iconst 1, 1) := by decide +kernel
theorem dX9_withdraw_63 : decode cX9_withdraw 63 = .ok (.isub, 1) := by decide +kernel
theorem dX9_withdraw_64 : decode cX9_withdraw 64 = .ok (.putfield 38, 3) := by decide +kernel
theorem dX9_withdraw_67 : decode cX9_withdraw 67 = .ok (.aload_n 0, 1) := by decide +kernel
theorem dX9_withdraw_68 : decode cX9_withdraw 68 = .ok (.getfield 26, 3) := by decide +kernel
theorem dX9_withdraw_71 : decode cX9_withdraw 71 = .ok (.aload_n 0, 1) := by decide +kernel
theorem dX9_withdraw_72 : decode cX9_withdraw 72 = .ok (.getfield 38, 3) := by decide +kernel
theorem dX9_withdraw_75 : decode cX9_withdraw 75 = .ok (.aconst_null, 1) := by decide +kernel
theorem dX9_withdraw_76 : decode cX9_withdraw 76 = .ok (.aastore, 1) := by decide +kernel
theorem dX9_withdraw_77 : decode cX9_withdraw 77 = .ok (.return_, 1) := by decide +kernel
theorem dX9_firstShort_0 : decode cX9_firstShort 0 = .ok (.iload_n 2, 1) := by decide +kernel
theorem dX9_firstShort_1 : decode cX9_firstShort 1 = .ok (.istore_n 3, 1) := by decide +kernel
theorem dX9_firstShort_2 : decode cX9_firstShort 2 = .ok (.iload_n 3, 1) := by decide +kernel
theorem dX9_firstShort_3 : decode cX9_firstShort 3 = .ok (.sipush 2000, 3) := by decide +kernel
theorem dX9_firstShort_6 : decode cX9_firstShort 6 = .ok (.if_icmp .gt 61, 3) := by decide +kernel
theorem dX9_firstShort_9 : decode cX9_firstShort 9 = .ok (.aload_n 0, 1) := by decide +kernel
theorem dX9_firstShort_10 : decode cX9_firstShort 10 = .ok (.getfield 9, 3) := by decide +kernel
theorem dX9_firstShort_13 : decode cX9_firstShort 13 = .ok (.aload_n 1, 1) := by decide +kernel
theorem dX9_firstShort_14 : decode cX9_firstShort 14 = .ok (.getfield 42, 3) := by decide +kernel
theorem dX9_firstShort_17 : decode cX9_firstShort 17 = .ok (.iload_n 3, 1) := by decide +kernel
theorem dX9_firstShort_18 : decode cX9_firstShort 18 = .ok (.invokevirtual 45, 3) := by decide +kernel
theorem dX9_firstShort_21 : decode cX9_firstShort 21 = .ok (.istore 4, 2) := by decide +kernel
theorem dX9_firstShort_23 : decode cX9_firstShort 23 = .ok (.aload_n 1, 1) := by decide +kernel
theorem dX9_firstShort_24 : decode cX9_firstShort 24 = .ok (.aload_n 0, 1) := by decide +kernel
theorem dX9_firstShort_25 : decode cX9_firstShort 25 = .ok (.getfield 9, 3) := by decide +kernel
theorem dX9_firstShort_28 : decode cX9_firstShort 28 = .ok (.aload_n 1, 1) := by decide +kernel
theorem dX9_firstShort_29 : decode cX9_firstShort 29 = .ok (.getfield 42, 3) := by decide +kernel
theorem dX9_firstShort_32 : decode cX9_firstShort 32 = .ok (.bipush 7, 2) := by decide +kernel
theorem dX9_firstShort_34 : decode cX9_firstShort 34 = .ok (.iload_n 3, 1) := by decide +kernel
theorem dX9_firstShort_35 : decode cX9_firstShort 35 = .ok (.imul, 1) := by decide +kernel
theorem dX9_firstShort_36 : decode cX9_firstShort 36 = .ok (.invokevirtual 51, 3) := by decide +kernel
theorem dX9_firstShort_39 : decode cX9_firstShort 39 = .ok (.iload_n 3, 1) := by decide +kernel
theorem dX9_firstShort_40 : decode cX9_firstShort 40 = .ok (.invokevirtual 55, 3) := by decide +kernel
theorem dX9_firstShort_43 : decode cX9_firstShort 43 = .ok (.istore 5, 2) := by decide +kernel
theorem dX9_firstShort_45 : decode cX9_firstShort 45 = .ok (.iload 5, 2) := by decide +kernel
theorem dX9_firstShort_47 : decode cX9_firstShort 47 = .ok (.iload 4, 2) := by decide +kernel
theorem dX9_firstShort_49 : decode cX9_firstShort 49 = .ok (.if_icmp .ge 6, 3) := by decide +kernel
theorem dX9_firstShort_52 : decode cX9_firstShort 52 = .ok (.iload 5, 2) := by decide +kernel
theorem dX9_firstShort_54 : decode cX9_firstShort 54 = .ok (.ireturn, 1) := by decide +kernel
theorem dX9_firstShort_55 : decode cX9_firstShort 55 = .ok (.iload_n 3, 1) := by decide +kernel
theorem dX9_firstShort_56 : decode cX9_firstShort 56 = .ok (.iconst 1, 1) := by decide +kernel
theorem dX9_firstShort_57 : decode cX9_firstShort 57 = .ok (.iadd, 1) := by decide +kernel
theorem dX9_firstShort_58 : decode cX9_firstShort 58 = .ok (.iload 4, 2) := by decide +kernel
theorem dX9_firstShort_60 : decode cX9_firstShort 60 = .ok (.invokestatic 59, 3) := by decide +kernel
theorem dX9_firstShort_63 : decode cX9_firstShort 63 = .ok (.istore_n 3, 1) := by decide +kernel
theorem dX9_firstShort_64 : decode cX9_firstShort 64 = .ok (.goto (-62), 3) := by decide +kernel
theorem dX9_firstShort_67 : decode cX9_firstShort 67 = .ok (.iconst (-1), 1) := by decide +kernel
theorem dX9_firstShort_68 : decode cX9_firstShort 68 = .ok (.ireturn, 1) := by decide +kernel
theorem dX9_cheapestRelief_0 : decode cX9_cheapestRelief 0 = .ok (.aload_n 0, 1) := by decide +kernel
theorem dX9_cheapestRelief_1 : decode cX9_cheapestRelief 1 = .ok (.aload_n 1, 1) := by decide +kernel
theorem dX9_cheapestRelief_2 : decode cX9_cheapestRelief 2 = .ok (.iload_n 3, 1) := by decide +kernel
theorem dX9_cheapestRelief_3 : decode cX9_cheapestRelief 3 = .ok (.bipush 7, 2) := by decide +kernel
theorem dX9_cheapestRelief_5 : decode cX9_cheapestRelief 5 = .ok (.idiv, 1) := by decide +kernel
theorem dX9_cheapestRelief_6 : decode cX9_cheapestRelief 6 = .ok (.invokevirtual 64, 3) := by decide +kernel
theorem dX9_cheapestRelief_9 : decode cX9_cheapestRelief 9 = .ok (.istore 4, 2) := by decide +kernel
theorem dX9_cheapestRelief_11 : decode cX9_cheapestRelief 11 = .ok (.iload 4, 2) := by decide +kernel
theorem dX9_cheapestRelief_13 : decode cX9_cheapestRelief 13 = .ok (.iconst (-1), 1) := by decide +kernel
theorem dX9_cheapestRelief_14 : decode cX9_cheapestRelief 14 = .ok (.if_icmp .ne 5, 3) := by decide +kernel
theorem dX9_cheapestRelief_17 : decode cX9_cheapestRelief 17 = .ok (.iconst (-1), 1) := by decide +kernel
theorem dX9_cheapestRelief_18 : decode cX9_cheapestRelief 18 = .ok (.ireturn, 1) := by decide +kernel
theorem dX9_cheapestRelief_19 : decode cX9_cheapestRelief 19 = .ok (.aload_n 0, 1) := by decide +kernel
theorem dX9_cheapestRelief_20 : decode cX9_cheapestRelief 20 = .ok (.aload_n 1, 1) := by decide +kernel
theorem dX9_cheapestRelief_21 : decode cX9_cheapestRelief 21 = .ok (.iload 4, 2) := by decide +kernel
theorem dX9_cheapestRelief_23 : decode cX9_cheapestRelief 23 = .ok (.sipush 2000, 3) := by decide +kernel
theorem dX9_cheapestRelief_26 : decode cX9_cheapestRelief 26 = .ok (.iload 4, 2) := by decide +kernel
theorem dX9_cheapestRelief_28 : decode cX9_cheapestRelief 28 = .ok (.iload_n 2, 1) := by decide +kernel
theorem dX9_cheapestRelief_29 : decode cX9_cheapestRelief 29 = .ok (.iadd, 1) := by decide +kernel
theorem dX9_cheapestRelief_30 : decode cX9_cheapestRelief 30 = .ok (.iconst 1, 1) := by decide +kernel
theorem dX9_cheapestRelief_31 : decode cX9_cheapestRelief 31 = .ok (.isub, 1) := by decide +kernel
theorem dX9_cheapestRelief_32 : decode cX9_cheapestRelief 32 = .ok (.invokestatic 68, 3) := by decide +kernel
theorem dX9_cheapestRelief_35 : decode cX9_cheapestRelief 35 = .ok (.invokevirtual 71, 3) := by decide +kernel
theorem dX9_cheapestRelief_38 : decode cX9_cheapestRelief 38 = .ok (.aload_n 0, 1) := by decide +kernel
theorem dX9_cheapestRelief_39 : decode cX9_cheapestRelief 39 = .ok (.aload_n 1, 1) := by decide +kernel
theorem dX9_cheapestRelief_40 : decode cX9_cheapestRelief 40 = .ok (.getfield 42, 3) := by decide +kernel
theorem dX9_cheapestRelief_43 : decode cX9_cheapestRelief 43 = .ok (.iload_n 3, 1) := by decide +kernel
theorem dX9_cheapestRelief_44 : decode cX9_cheapestRelief 44 = .ok (.invokevirtual 75, 3) := by decide +kernel
theorem dX9_cheapestRelief_47 : decode cX9_cheapestRelief 47 = .ok (.istore 5, 2) := by decide +kernel
theorem dX9_cheapestRelief_49 : decode cX9_cheapestRelief 49 = .ok (.iconst (-1), 1) := by decide +kernel
theorem dX9_cheapestRelief_50 : decode cX9_cheapestRelief 50 = .ok (.istore 6, 2) := by decide +kernel
theorem dX9_cheapestRelief_52 : decode cX9_cheapestRelief 52 = .ok (.iconst 0, 1) := by decide +kernel
theorem dX9_cheapestRelief_53 : decode cX9_cheapestRelief 53 = .ok (.istore 7, 2) := by decide +kernel
theorem dX9_cheapestRelief_55 : decode cX9_cheapestRelief 55 = .ok (.iconst 1, 1) := by decide +kernel
theorem dX9_cheapestRelief_56 : decode cX9_cheapestRelief 56 = .ok (.istore 8, 2) := by decide +kernel
theorem dX9_cheapestRelief_58 : decode cX9_cheapestRelief 58 = .ok (.iload 8, 2) := by decide +kernel
theorem dX9_cheapestRelief_60 : decode cX9_cheapestRelief 60 = .ok (.iconst 1, 1) := by decide +kernel
theorem dX9_cheapestRelief_61 : decode cX9_cheapestRelief 61 = .ok (.aload_n 0, 1) := by decide +kernel
theorem dX9_cheapestRelief_62 : decode cX9_cheapestRelief 62 = .ok (.getfield 38, 3) := by decide +kernel
theorem dX9_cheapestRelief_65 : decode cX9_cheapestRelief 65 = .ok (.ishl, 1) := by decide +kernel
theorem dX9_cheapestRelief_66 : decode cX9_cheapestRelief 66 = .ok (.if_icmp .ge 81, 3) := by decide +kernel
theorem dX9_cheapestRelief_69 : decode cX9_cheapestRelief 69 = .ok (.iload 8, 2) := by decide +kernel
theorem dX9_cheapestRelief_71 : decode cX9_cheapestRelief 71 = .ok (.iload 5, 2) := by decide +kernel
theorem dX9_cheapestRelief_73 : decode cX9_cheapestRelief 73 = .ok (.iconst (-1), 1) := by decide +kernel
theorem dX9_cheapestRelief_74 : decode cX9_cheapestRelief 74 = .ok (.ixor, 1) := by decide +kernel
theorem dX9_cheapestRelief_75 : decode cX9_cheapestRelief 75 = .ok (.iand, 1) := by decide +kernel
theorem dX9_cheapestRelief_76 : decode cX9_cheapestRelief 76 = .ok (.ifCond .ne 65, 3) := by decide +kernel
theorem dX9_cheapestRelief_79 : decode cX9_cheapestRelief 79 = .ok (.aload_n 0, 1) := by decide +kernel
theorem dX9_cheapestRelief_80 : decode cX9_cheapestRelief 80 = .ok (.iload 8, 2) := by decide +kernel
theorem dX9_cheapestRelief_82 : decode cX9_cheapestRelief 82 = .ok (.invokevirtual 78, 3) := by decide +kernel
theorem dX9_cheapestRelief_85 : decode cX9_cheapestRelief 85 = .ok (.istore 9, 2) := by decide +kernel
theorem dX9_cheapestRelief_87 : decode cX9_cheapestRelief 87 = .ok (.iload 6, 2) := by decide +kernel
theorem dX9_cheapestRelief_89 : decode cX9_cheapestRelief 89 = .ok (.iconst (-1), 1) := by decide +kernel
theorem dX9_cheapestRelief_90 : decode cX9_cheapestRelief 90 = .ok (.if_icmp .eq 10, 3) := by decide +kernel
theorem dX9_cheapestRelief_93 : decode cX9_cheapestRelief 93 = .ok (.iload 9, 2) := by decide +kernel
theorem dX9_cheapestRelief_95 : decode cX9_cheapestRelief 95 = .ok (.iload 7, 2) := by decide +kernel
theorem dX9_cheapestRelief_97 : decode cX9_cheapestRelief 97 = .ok (.if_icmp .ge 44, 3) := by decide +kernel
theorem dX9_cheapestRelief_100 : decode cX9_cheapestRelief 100 = .ok (.aload_n 0, 1) := by decide +kernel
theorem dX9_cheapestRelief_101 : decode cX9_cheapestRelief 101 = .ok (.getfield 9, 3) := by decide +kernel
theorem dX9_cheapestRelief_104 : decode cX9_cheapestRelief 104 = .ok (.iload 8, 2) := by decide +kernel
theorem dX9_cheapestRelief_106 : decode cX9_cheapestRelief 106 = .ok (.invokestatic 82, 3) := by decide +kernel
theorem dX9_cheapestRelief_109 : decode cX9_cheapestRelief 109 = .ok (.invokevirtual 87, 3) := by decide +kernel
theorem dX9_cheapestRelief_112 : decode cX9_cheapestRelief 112 = .ok (.ifCond .eq 29, 3) := by decide +kernel
theorem dX9_cheapestRelief_115 : decode cX9_cheapestRelief 115 = .ok (.aload_n 0, 1) := by decide +kernel
theorem dX9_cheapestRelief_116 : decode cX9_cheapestRelief 116 = .ok (.iload 8, 2) := by decide +kernel
theorem dX9_cheapestRelief_118 : decode cX9_cheapestRelief 118 = .ok (.invokevirtual 91, 3) := by decide +kernel
theorem dX9_cheapestRelief_121 : decode cX9_cheapestRelief 121 = .ok (.ifCond .eq 20, 3) := by decide +kernel
theorem dX9_cheapestRelief_124 : decode cX9_cheapestRelief 124 = .ok (.aload_n 0, 1) := by decide +kernel
theorem dX9_cheapestRelief_125 : decode cX9_cheapestRelief 125 = .ok (.iload 8, 2) := by decide +kernel
theorem dX9_cheapestRelief_127 : decode cX9_cheapestRelief 127 = .ok (.invokevirtual 94, 3) := by decide +kernel
theorem dX9_cheapestRelief_130 : decode cX9_cheapestRelief 130 = .ok (.ifCond .eq 11, 3) := by decide +kernel
theorem dX9_cheapestRelief_133 : decode cX9_cheapestRelief 133 = .ok (.iload 8, 2) := by decide +kernel
theorem dX9_cheapestRelief_135 : decode cX9_cheapestRelief 135 = .ok (.istore 6, 2) := by decide +kernel
theorem dX9_cheapestRelief_137 : decode cX9_cheapestRelief 137 = .ok (.iload 9, 2) := by decide +kernel
theorem dX9_cheapestRelief_139 : decode cX9_cheapestRelief 139 = .ok (.istore 7, 2) := by decide +kernel
theorem dX9_cheapestRelief_141 : decode cX9_cheapestRelief 141 = .ok (.iinc 8 1, 3) := by decide +kernel
theorem dX9_cheapestRelief_144 : decode cX9_cheapestRelief 144 = .ok (.goto (-86), 3) := by decide +kernel
theorem dX9_cheapestRelief_147 : decode cX9_cheapestRelief 147 = .ok (.iload 6, 2) := by decide +kernel
theorem dX9_cheapestRelief_149 : decode cX9_cheapestRelief 149 = .ok (.ireturn, 1) := by decide +kernel
theorem dX9_noteLacks_0 : decode cX9_noteLacks 0 = .ok (.aload_n 0, 1) := by decide +kernel
theorem dX9_noteLacks_1 : decode cX9_noteLacks 1 = .ok (.iconst 0, 1) := by decide +kernel
theorem dX9_noteLacks_2 : decode cX9_noteLacks 2 = .ok (.putfield 97, 3) := by decide +kernel
theorem dX9_noteLacks_5 : decode cX9_noteLacks 5 = .ok (.iload_n 2, 1) := by decide +kernel
theorem dX9_noteLacks_6 : decode cX9_noteLacks 6 = .ok (.istore 4, 2) := by decide +kernel
theorem dX9_noteLacks_8 : decode cX9_noteLacks 8 = .ok (.iload 4, 2) := by decide +kernel
theorem dX9_noteLacks_10 : decode cX9_noteLacks 10 = .ok (.iload_n 3, 1) := by decide +kernel
theorem dX9_noteLacks_11 : decode cX9_noteLacks 11 = .ok (.if_icmp .gt 123, 3) := by decide +kernel
theorem dX9_noteLacks_14 : decode cX9_noteLacks 14 = .ok (.aload_n 0, 1) := by decide +kernel
theorem dX9_noteLacks_15 : decode cX9_noteLacks 15 = .ok (.aload_n 1, 1) := by decide +kernel
theorem dX9_noteLacks_16 : decode cX9_noteLacks 16 = .ok (.getfield 42, 3) := by decide +kernel
theorem dX9_noteLacks_19 : decode cX9_noteLacks 19 = .ok (.iload 4, 2) := by decide +kernel
theorem dX9_noteLacks_21 : decode cX9_noteLacks 21 = .ok (.invokevirtual 100, 3) := by decide +kernel
theorem dX9_noteLacks_24 : decode cX9_noteLacks 24 = .ok (.istore 5, 2) := by decide +kernel
theorem dX9_noteLacks_26 : decode cX9_noteLacks 26 = .ok (.aload_n 1, 1) := by decide +kernel
theorem dX9_noteLacks_27 : decode cX9_noteLacks 27 = .ok (.iload_n 3, 1) := by decide +kernel
theorem dX9_noteLacks_28 : decode cX9_noteLacks 28 = .ok (.iload 5, 2) := by decide +kernel
theorem dX9_noteLacks_30 : decode cX9_noteLacks 30 = .ok (.iconst 1, 1) := by decide +kernel
theorem dX9_noteLacks_31 : decode cX9_noteLacks 31 = .ok (.isub, 1) := by decide +kernel
theorem dX9_noteLacks_32 : decode cX9_noteLacks 32 = .ok (.invokestatic 68, 3) := by decide +kernel
theorem dX9_noteLacks_35 : decode cX9_noteLacks 35 = .ok (.invokevirtual 103, 3) := by decide +kernel
theorem dX9_noteLacks_38 : decode cX9_noteLacks 38 = .ok (.aload_n 0, 1) := by decide +kernel
theorem dX9_noteLacks_39 : decode cX9_noteLacks 39 = .ok (.getfield 9, 3) := by decide +kernel
theorem dX9_noteLacks_42 : decode cX9_noteLacks 42 = .ok (.aload_n 1, 1) := by decide +kernel
theorem dX9_noteLacks_43 : decode cX9_noteLacks 43 = .ok (.getfield 42, 3) := by decide +kernel
theorem dX9_noteLacks_46 : decode cX9_noteLacks 46 = .ok (.bipush 7, 2) := by decide +kernel
theorem dX9_noteLacks_48 : decode cX9_noteLacks 48 = .ok (.iload 4, 2) := by decide +kernel
theorem dX9_noteLacks_50 : decode cX9_noteLacks 50 = .ok (.imul, 1) := by decide +kernel
theorem dX9_noteLacks_51 : decode cX9_noteLacks 51 = .ok (.invokevirtual 51, 3) := by decide +kernel
theorem dX9_noteLacks_54 : decode cX9_noteLacks 54 = .ok (.lsub, 1) := by decide +kernel
theorem dX9_noteLacks_55 : decode cX9_noteLacks 55 = .ok (.lstore 6, 2) := by decide +kernel
theorem dX9_noteLacks_57 : decode cX9_noteLacks 57 = .ok (.lload 6, 2) := by decide +kernel
theorem dX9_noteLacks_59 : decode cX9_noteLacks 59 = .ok (.lconst 0, 1) := by decide +kernel
theorem dX9_noteLacks_60 : decode cX9_noteLacks 60 = .ok (.lcmp, 1) := by decide +kernel
theorem dX9_noteLacks_61 : decode cX9_noteLacks 61 = .ok (.ifCond .le 59, 3) := by decide +kernel
theorem dX9_noteLacks_64 : decode cX9_noteLacks 64 = .ok (.aload_n 0, 1) := by decide +kernel
theorem dX9_noteLacks_65 : decode cX9_noteLacks 65 = .ok (.getfield 97, 3) := by decide +kernel
theorem dX9_noteLacks_68 : decode cX9_noteLacks 68 = .ok (.aload_n 0, 1) := by decide +kernel
theorem dX9_noteLacks_69 : decode cX9_noteLacks 69 = .ok (.getfield 34, 3) := by decide +kernel
theorem dX9_noteLacks_72 : decode cX9_noteLacks 72 = .ok (.arraylength, 1) := by decide +kernel
theorem dX9_noteLacks_73 : decode cX9_noteLacks 73 = .ok (.if_icmp .ge 47, 3) := by decide +kernel
theorem dX9_noteLacks_76 : decode cX9_noteLacks 76 = .ok (.aload_n 0, 1) := by decide +kernel
theorem dX9_noteLacks_77 : decode cX9_noteLacks 77 = .ok (.getfield 97, 3) := by decide +kernel
theorem dX9_noteLacks_80 : decode cX9_noteLacks 80 = .ok (.aload_n 0, 1) := by decide +kernel
theorem dX9_noteLacks_81 : decode cX9_noteLacks 81 = .ok (.getfield 30, 3) := by decide +kernel
theorem dX9_noteLacks_84 : decode cX9_noteLacks 84 = .ok (.arraylength, 1) := by decide +kernel
theorem dX9_noteLacks_85 : decode cX9_noteLacks 85 = .ok (.if_icmp .ge 35, 3) := by decide +kernel
theorem dX9_noteLacks_88 : decode cX9_noteLacks 88 = .ok (.aload_n 0, 1) := by decide +kernel
theorem dX9_noteLacks_89 : decode cX9_noteLacks 89 = .ok (.getfield 30, 3) := by decide +kernel
theorem dX9_noteLacks_92 : decode cX9_noteLacks 92 = .ok (.aload_n 0, 1) := by decide +kernel
theorem dX9_noteLacks_93 : decode cX9_noteLacks 93 = .ok (.getfield 97, 3) := by decide +kernel
theorem dX9_noteLacks_96 : decode cX9_noteLacks 96 = .ok (.iload 4, 2) := by decide +kernel
theorem dX9_noteLacks_98 : decode cX9_noteLacks 98 = .ok (.iastore, 1) := by decide +kernel
theorem dX9_noteLacks_99 : decode cX9_noteLacks 99 = .ok (.aload_n 0, 1) := by decide +kernel
theorem dX9_noteLacks_100 : decode cX9_noteLacks 100 = .ok (.getfield 34, 3) := by decide +kernel
theorem dX9_noteLacks_103 : decode cX9_noteLacks 103 = .ok (.aload_n 0, 1) := by decide +kernel
theorem dX9_noteLacks_104 : decode cX9_noteLacks 104 = .ok (.getfield 97, 3) := by decide +kernel
theorem dX9_noteLacks_107 : decode cX9_noteLacks 107 = .ok (.lload 6, 2) := by decide +kernel
theorem dX9_noteLacks_109 : decode cX9_noteLacks 109 = .ok (.lastore, 1) := by decide +kernel
theorem dX9_noteLacks_110 : decode cX9_noteLacks 110 = .ok (.aload_n 0, 1) := by decide +kernel
theorem dX9_noteLacks_111 : decode cX9_noteLacks 111 = .ok (.dup, 1) := by decide +kernel
theorem dX9_noteLacks_112 : decode cX9_noteLacks 112 = .ok (.getfield 97, 3) := by decide +kernel
theorem dX9_noteLacks_115 : decode cX9_noteLacks 115 = .ok (.iconst 1, 1) := by decide +kernel
theorem dX9_noteLacks_116 : decode cX9_noteLacks 116 = .ok (.iadd, 1) := by decide +kernel
theorem dX9_noteLacks_117 : decode cX9_noteLacks 117 = .ok (.putfield 97, 3) := by decide +kernel
theorem dX9_noteLacks_120 : decode cX9_noteLacks 120 = .ok (.iload 4, 2) := by decide +kernel
theorem dX9_noteLacks_122 : decode cX9_noteLacks 122 = .ok (.iconst 1, 1) := by decide +kernel
theorem dX9_noteLacks_123 : decode cX9_noteLacks 123 = .ok (.iadd, 1) := by decide +kernel
theorem dX9_noteLacks_124 : decode cX9_noteLacks 124 = .ok (.iload 5, 2) := by decide +kernel
theorem dX9_noteLacks_126 : decode cX9_noteLacks 126 = .ok (.invokestatic 59, 3) := by decide +kernel
theorem dX9_noteLacks_129 : decode cX9_noteLacks 129 = .ok (.istore 4, 2) := by decide +kernel
theorem dX9_noteLacks_131 : decode cX9_noteLacks 131 = .ok (.goto (-123), 3) := by decide +kernel
theorem dX9_noteLacks_134 : decode cX9_noteLacks 134 = .ok (.return_, 1) := by decide +kernel
theorem dX9_nextTurnWithOptions_0 : decode cX9_nextTurnWithOptions 0 = .ok (.aload_n 0, 1) := by decide +kernel
theorem dX9_nextTurnWithOptions_1 : decode cX9_nextTurnWithOptions 1 = .ok (.getfield 9, 3) := by decide +kernel
theorem dX9_nextTurnWithOptions_4 : decode cX9_nextTurnWithOptions 4 = .ok (.iload_n 1, 1) := by decide +kernel
theorem dX9_nextTurnWithOptions_5 : decode cX9_nextTurnWithOptions 5 = .ok (.iload_n 2, 1) := by decide +kernel
theorem dX9_nextTurnWithOptions_6 : decode cX9_nextTurnWithOptions 6 = .ok (.invokevirtual 45, 3) := by decide +kernel
theorem dX9_nextTurnWithOptions_9 : decode cX9_nextTurnWithOptions 9 = .ok (.istore_n 3, 1) := by decide +kernel
theorem dX9_nextTurnWithOptions_10 : decode cX9_nextTurnWithOptions 10 = .ok (.iconst 0, 1) := by decide +kernel
theorem dX9_nextTurnWithOptions_11 : decode cX9_nextTurnWithOptions 11 = .ok (.istore 4, 2) := by decide +kernel
theorem dX9_nextTurnWithOptions_13 : decode cX9_nextTurnWithOptions 13 = .ok (.iload 4, 2) := by decide +kernel
theorem dX9_nextTurnWithOptions_15 : decode cX9_nextTurnWithOptions 15 = .ok (.aload_n 0, 1) := by decide +kernel
theorem dX9_nextTurnWithOptions_16 : decode cX9_nextTurnWithOptions 16 = .ok (.getfield 38, 3) := by decide +kernel
theorem dX9_nextTurnWithOptions_19 : decode cX9_nextTurnWithOptions 19 = .ok (.if_icmp .ge 39, 3) := by decide +kernel
theorem dX9_nextTurnWithOptions_22 : decode cX9_nextTurnWithOptions 22 = .ok (.aload_n 0, 1) := by decide +kernel
theorem dX9_nextTurnWithOptions_23 : decode cX9_nextTurnWithOptions 23 = .ok (.iload 4, 2) := by decide +kernel
theorem dX9_nextTurnWithOptions_25 : decode cX9_nextTurnWithOptions 25 = .ok (.invokevirtual 107, 3) := by decide +kernel
theorem dX9_nextTurnWithOptions_28 : decode cX9_nextTurnWithOptions 28 = .ok (.astore 5, 2) := by decide +kernel
theorem dX9_nextTurnWithOptions_30 : decode cX9_nextTurnWithOptions 30 = .ok (.aload 5, 2) := by decide +kernel
theorem dX9_nextTurnWithOptions_32 : decode cX9_nextTurnWithOptions 32 = .ok (.ifnull 20, 3) := by decide +kernel
theorem dX9_nextTurnWithOptions_35 : decode cX9_nextTurnWithOptions 35 = .ok (.iload_n 3, 1) := by decide +kernel
theorem dX9_nextTurnWithOptions_36 : decode cX9_nextTurnWithOptions 36 = .ok (.aload 5, 2) := by decide +kernel
theorem dX9_nextTurnWithOptions_38 : decode cX9_nextTurnWithOptions 38 = .ok (.getfield 111, 3) := by decide +kernel
theorem dX9_nextTurnWithOptions_41 : decode cX9_nextTurnWithOptions 41 = .ok (.getfield 115, 3) := by decide +kernel
theorem dX9_nextTurnWithOptions_44 : decode cX9_nextTurnWithOptions 44 = .ok (.invokestatic 120, 3) := by decide +kernel
theorem dX9_nextTurnWithOptions_47 : decode cX9_nextTurnWithOptions 47 = .ok (.iload_n 2, 1) := by decide +kernel
theorem dX9_nextTurnWithOptions_48 : decode cX9_nextTurnWithOptions 48 = .ok (.invokestatic 123, 3) := by decide +kernel
theorem dX9_nextTurnWithOptions_51 : decode cX9_nextTurnWithOptions 51 = .ok (.istore_n 3, 1) := by decide +kernel
theorem dX9_nextTurnWithOptions_52 : decode cX9_nextTurnWithOptions 52 = .ok (.iinc 4 1, 3) := by decide +kernel
theorem dX9_nextTurnWithOptions_55 : decode cX9_nextTurnWithOptions 55 = .ok (.goto (-42), 3) := by decide +kernel
theorem dX9_nextTurnWithOptions_58 : decode cX9_nextTurnWithOptions 58 = .ok (.iload_n 3, 1) := by decide +kernel
theorem dX9_nextTurnWithOptions_59 : decode cX9_nextTurnWithOptions 59 = .ok (.ireturn, 1) := by decide +kernel
theorem dX9_usableFor_0 : decode cX9_usableFor 0 = .ok (.iconst 0, 1) := by decide +kernel
theorem dX9_usableFor_1 : decode cX9_usableFor 1 = .ok (.istore_n 3, 1) := by decide +kernel
theorem dX9_usableFor_2 : decode cX9_usableFor 2 = .ok (.iconst 0, 1) := by decide +kernel
theorem dX9_usableFor_3 : decode cX9_usableFor 3 = .ok (.istore 4, 2) := by decide +kernel
theorem dX9_usableFor_5 : decode cX9_usableFor 5 = .ok (.iload 4, 2) := by decide +kernel
theorem dX9_usableFor_7 : decode cX9_usableFor 7 = .ok (.aload_n 0, 1) := by decide +kernel
theorem dX9_usableFor_8 : decode cX9_usableFor 8 = .ok (.getfield 38, 3) := by decide +kernel
theorem dX9_usableFor_11 : decode cX9_usableFor 11 = .ok (.if_icmp .ge 76, 3) := by decide +kernel
theorem dX9_usableFor_14 : decode cX9_usableFor 14 = .ok (.aload_n 0, 1) := by decide +kernel
theorem dX9_usableFor_15 : decode cX9_usableFor 15 = .ok (.iload 4, 2) := by decide +kernel
theorem dX9_usableFor_17 : decode cX9_usableFor 17 = .ok (.invokevirtual 107, 3) := by decide +kernel
theorem dX9_usableFor_20 : decode cX9_usableFor 20 = .ok (.astore 5, 2) := by decide +kernel
theorem dX9_usableFor_22 : decode cX9_usableFor 22 = .ok (.aload 5, 2) := by decide +kernel
theorem dX9_usableFor_24 : decode cX9_usableFor 24 = .ok (.ifnull 57, 3) := by decide +kernel
theorem dX9_usableFor_27 : decode cX9_usableFor 27 = .ok (.aload 5, 2) := by decide +kernel
theorem dX9_usableFor_29 : decode cX9_usableFor 29 = .ok (.getfield 111, 3) := by decide +kernel
theorem dX9_usableFor_32 : decode cX9_usableFor 32 = .ok (.getfield 127, 3) := by decide +kernel
theorem dX9_usableFor_35 : decode cX9_usableFor 35 = .ok (.iload_n 1, 1) := by decide +kernel
theorem dX9_usableFor_36 : decode cX9_usableFor 36 = .ok (.if_icmp .ne 45, 3) := by decide +kernel
theorem dX9_usableFor_39 : decode cX9_usableFor 39 = .ok (.aload 5, 2) := by decide +kernel
theorem dX9_usableFor_41 : decode cX9_usableFor 41 = .ok (.getfield 111, 3) := by decide +kernel
theorem dX9_usableFor_44 : decode cX9_usableFor 44 = .ok (.getfield 115, 3) := by decide +kernel
theorem dX9_usableFor_47 : decode cX9_usableFor 47 = .ok (.iload_n 2, 1) := by decide +kernel
theorem dX9_usableFor_48 : decode cX9_usableFor 48 = .ok (.if_icmp .lt 33, 3) := by decide +kernel
theorem dX9_usableFor_51 : decode cX9_usableFor 51 = .ok (.aload_n 0, 1) := by decide +kernel
theorem dX9_usableFor_52 : decode cX9_usableFor 52 = .ok (.getfield 9, 3) := by decide +kernel
theorem dX9_usableFor_55 : decode cX9_usableFor 55 = .ok (.aload 5, 2) := by decide +kernel
theorem dX9_usableFor_57 : decode cX9_usableFor 57 = .ok (.getfield 111, 3) := by decide +kernel
theorem dX9_usableFor_60 : decode cX9_usableFor 60 = .ok (.aload 5, 2) := by decide +kernel
theorem dX9_usableFor_62 : decode cX9_usableFor 62 = .ok (.getfield 111, 3) := by decide +kernel
theorem dX9_usableFor_65 : decode cX9_usableFor 65 = .ok (.getfield 115, 3) := by decide +kernel
theorem dX9_usableFor_68 : decode cX9_usableFor 68 = .ok (.invokevirtual 130, 3) := by decide +kernel
theorem dX9_usableFor_71 : decode cX9_usableFor 71 = .ok (.ifCond .ne 10, 3) := by decide +kernel
theorem dX9_usableFor_74 : decode cX9_usableFor 74 = .ok (.iload_n 3, 1) := by decide +kernel
theorem dX9_usableFor_75 : decode cX9_usableFor 75 = .ok (.iconst 1, 1) := by decide +kernel
theorem dX9_usableFor_76 : decode cX9_usableFor 76 = .ok (.iload 4, 2) := by decide +kernel
theorem dX9_usableFor_78 : decode cX9_usableFor 78 = .ok (.ishl, 1) := by decide +kernel
theorem dX9_usableFor_79 : decode cX9_usableFor 79 = .ok (.ior, 1) := by decide +kernel
theorem dX9_usableFor_80 : decode cX9_usableFor 80 = .ok (.istore_n 3, 1) := by decide +kernel
theorem dX9_usableFor_81 : decode cX9_usableFor 81 = .ok (.iinc 4 1, 3) := by decide +kernel
theorem dX9_usableFor_84 : decode cX9_usableFor 84 = .ok (.goto (-79), 3) := by decide +kernel
theorem dX9_usableFor_87 : decode cX9_usableFor 87 = .ok (.iload_n 3, 1) := by decide +kernel
theorem dX9_usableFor_88 : decode cX9_usableFor 88 = .ok (.ireturn, 1) := by decide +kernel
theorem dX9_costOf_0 : decode cX9_costOf 0 = .ok (.iconst 0, 1) := by decide +kernel
theorem dX9_costOf_1 : decode cX9_costOf 1 = .ok (.istore_n 2, 1) := by decide +kernel
theorem dX9_costOf_2 : decode cX9_costOf 2 = .ok (.iconst 0, 1) := by decide +kernel
theorem dX9_costOf_3 : decode cX9_costOf 3 = .ok (.istore_n 3, 1) := by decide +kernel
theorem dX9_costOf_4 : decode cX9_costOf 4 = .ok (.iload_n 3, 1) := by decide +kernel
theorem dX9_costOf_5 : decode cX9_costOf 5 = .ok (.aload_n 0, 1) := by decide +kernel
theorem dX9_costOf_6 : decode cX9_costOf 6 = .ok (.getfield 38, 3) := by decide +kernel
theorem dX9_costOf_9 : decode cX9_costOf 9 = .ok (.if_icmp .ge 37, 3) := by decide +kernel
theorem dX9_costOf_12 : decode cX9_costOf 12 = .ok (.aload_n 0, 1) := by decide +kernel
theorem dX9_costOf_13 : decode cX9_costOf 13 = .ok (.iload_n 3, 1) := by decide +kernel
theorem dX9_costOf_14 : decode cX9_costOf 14 = .ok (.invokevirtual 107, 3) := by decide +kernel
theorem dX9_costOf_17 : decode cX9_costOf 17 = .ok (.astore 4, 2) := by decide +kernel
theorem dX9_costOf_19 : decode cX9_costOf 19 = .ok (.aload 4, 2) := by decide +kernel
theorem dX9_costOf_21 : decode cX9_costOf 21 = .ok (.ifnull 19, 3) := by decide +kernel
theorem dX9_costOf_24 : decode cX9_costOf 24 = .ok (.iload_n 1, 1) := by decide +kernel
theorem dX9_costOf_25 : decode cX9_costOf 25 = .ok (.iload_n 3, 1) := by decide +kernel
theorem dX9_costOf_26 : decode cX9_costOf 26 = .ok (.ishr, 1) := by decide +kernel
theorem dX9_costOf_27 : decode cX9_costOf 27 = .ok (.iconst 1, 1) := by decide +kernel
theorem dX9_costOf_28 : decode cX9_costOf 28 = .ok (.iand, 1) := by decide +kernel
theorem dX9_costOf_29 : decode cX9_costOf 29 = .ok (.ifCond .eq 11, 3) := by decide +kernel
theorem dX9_costOf_32 : decode cX9_costOf 32 = .ok (.iload_n 2, 1) := by decide +kernel
theorem dX9_costOf_33 : decode cX9_costOf 33 = .ok (.aload 4, 2) := by decide +kernel
theorem dX9_costOf_35 : decode cX9_costOf 35 = .ok (.getfield 134, 3) := by decide +kernel
theorem dX9_costOf_38 : decode cX9_costOf 38 = .ok (.iadd, 1) := by decide +kernel
theorem dX9_costOf_39 : decode cX9_costOf 39 = .ok (.istore_n 2, 1) := by decide +kernel
theorem dX9_costOf_40 : decode cX9_costOf 40 = .ok (.iinc 3 1, 3) := by decide +kernel
theorem dX9_costOf_43 : decode cX9_costOf 43 = .ok (.goto (-39), 3) := by decide +kernel
theorem dX9_costOf_46 : decode cX9_costOf 46 = .ok (.iload_n 2, 1) := by decide +kernel
theorem dX9_costOf_47 : decode cX9_costOf 47 = .ok (.ireturn, 1) := by decide +kernel
theorem dX9_isWithoutPair_0 : decode cX9_isWithoutPair 0 = .ok (.iconst 0, 1) := by decide +kernel
theorem dX9_isWithoutPair_1 : decode cX9_isWithoutPair 1 = .ok (.istore_n 2, 1) := by decide +kernel
theorem dX9_isWithoutPair_2 : decode cX9_isWithoutPair 2 = .ok (.iload_n 2, 1) := by decide +kernel
theorem dX9_isWithoutPair_3 : decode cX9_isWithoutPair 3 = .ok (.aload_n 0, 1) := by decide +kernel
theorem dX9_isWithoutPair_4 : decode cX9_isWithoutPair 4 = .ok (.getfield 38, 3) := by decide +kernel
theorem dX9_isWithoutPair_7 : decode cX9_isWithoutPair 7 = .ok (.if_icmp .ge 86, 3) := by decide +kernel
theorem dX9_isWithoutPair_10 : decode cX9_isWithoutPair 10 = .ok (.aload_n 0, 1) := by decide +kernel
theorem dX9_isWithoutPair_11 : decode cX9_isWithoutPair 11 = .ok (.iload_n 2, 1) := by decide +kernel
theorem dX9_isWithoutPair_12 : decode cX9_isWithoutPair 12 = .ok (.invokevirtual 107, 3) := by decide +kernel
theorem dX9_isWithoutPair_15 : decode cX9_isWithoutPair 15 = .ok (.astore_n 3, 1) := by decide +kernel
theorem dX9_isWithoutPair_16 : decode cX9_isWithoutPair 16 = .ok (.iload_n 2, 1) := by decide +kernel
theorem dX9_isWithoutPair_17 : decode cX9_isWithoutPair 17 = .ok (.iconst 1, 1) := by decide +kernel
theorem dX9_isWithoutPair_18 : decode cX9_isWithoutPair 18 = .ok (.iadd, 1) := by decide +kernel
theorem dX9_isWithoutPair_19 : decode cX9_isWithoutPair 19 = .ok (.istore 4, 2) := by decide +kernel
theorem dX9_isWithoutPair_21 : decode cX9_isWithoutPair 21 = .ok (.iload 4, 2) := by decide +kernel
theorem dX9_isWithoutPair_23 : decode cX9_isWithoutPair 23 = .ok (.aload_n 0, 1) := by decide +kernel
theorem dX9_isWithoutPair_24 : decode cX9_isWithoutPair 24 = .ok (.getfield 38, 3) := by decide +kernel
theorem dX9_isWithoutPair_27 : decode cX9_isWithoutPair 27 = .ok (.if_icmp .ge 60, 3) := by decide +kernel
theorem dX9_isWithoutPair_30 : decode cX9_isWithoutPair 30 = .ok (.aload_n 0, 1) := by decide +kernel
theorem dX9_isWithoutPair_31 : decode cX9_isWithoutPair 31 = .ok (.iload 4, 2) := by decide +kernel
theorem dX9_isWithoutPair_33 : decode cX9_isWithoutPair 33 = .ok (.invokevirtual 107, 3) := by decide +kernel
theorem dX9_isWithoutPair_36 : decode cX9_isWithoutPair 36 = .ok (.astore 5, 2) := by decide +kernel
theorem dX9_isWithoutPair_38 : decode cX9_isWithoutPair 38 = .ok (.aload_n 3, 1) := by decide +kernel
theorem dX9_isWithoutPair_39 : decode cX9_isWithoutPair 39 = .ok (.ifnull 42, 3) := by decide +kernel
theorem dX9_isWithoutPair_42 : decode cX9_isWithoutPair 42 = .ok (.aload 5, 2) := by decide +kernel
theorem dX9_isWithoutPair_44 : decode cX9_isWithoutPair 44 = .ok (.ifnull 37, 3) := by decide +kernel
theorem dX9_isWithoutPair_47 : decode cX9_isWithoutPair 47 = .ok (.iload_n 1, 1) := by decide +kernel
theorem dX9_isWithoutPair_48 : decode cX9_isWithoutPair 48 = .ok (.iload_n 2, 1) := by decide +kernel
theorem dX9_isWithoutPair_49 : decode cX9_isWithoutPair 49 = .ok (.ishr, 1) := by decide +kernel
theorem dX9_isWithoutPair_50 : decode cX9_isWithoutPair 50 = .ok (.iconst 1, 1) := by decide +kernel
theorem dX9_isWithoutPair_51 : decode cX9_isWithoutPair 51 = .ok (.iand, 1) := by decide +kernel
theorem dX9_isWithoutPair_52 : decode cX9_isWithoutPair 52 = .ok (.ifCond .eq 29, 3) := by decide +kernel
theorem dX9_isWithoutPair_55 : decode cX9_isWithoutPair 55 = .ok (.iload_n 1, 1) := by decide +kernel
theorem dX9_isWithoutPair_56 : decode cX9_isWithoutPair 56 = .ok (.iload 4, 2) := by decide +kernel
theorem dX9_isWithoutPair_58 : decode cX9_isWithoutPair 58 = .ok (.ishr, 1) := by decide +kernel
theorem dX9_isWithoutPair_59 : decode cX9_isWithoutPair 59 = .ok (.iconst 1, 1) := by decide +kernel
theorem dX9_isWithoutPair_60 : decode cX9_isWithoutPair 60 = .ok (.iand, 1) := by decide +kernel
theorem dX9_isWithoutPair_61 : decode cX9_isWithoutPair 61 = .ok (.ifCond .eq 20, 3) := by decide +kernel
theorem dX9_isWithoutPair_64 : decode cX9_isWithoutPair 64 = .ok (.aload_n 3, 1) := by decide +kernel
theorem dX9_isWithoutPair_65 : decode cX9_isWithoutPair 65 = .ok (.getfield 111, 3) := by decide +kernel
theorem dX9_isWithoutPair_68 : decode cX9_isWithoutPair 68 = .ok (.aload 5, 2) := by decide +kernel
theorem dX9_isWithoutPair_70 : decode cX9_isWithoutPair 70 = .ok (.getfield 111, 3) := by decide +kernel
theorem dX9_isWithoutPair_73 : decode cX9_isWithoutPair 73 = .ok (.invokevirtual 137, 3) := by decide +kernel
theorem dX9_isWithoutPair_76 : decode cX9_isWithoutPair 76 = .ok (.ifCond .eq 5, 3) := by decide +kernel
theorem dX9_isWithoutPair_79 : decode cX9_isWithoutPair 79 = .ok (.iconst 0, 1) := by decide +kernel
theorem dX9_isWithoutPair_80 : decode cX9_isWithoutPair 80 = .ok (.ireturn, 1) := by decide +kernel
theorem dX9_isWithoutPair_81 : decode cX9_isWithoutPair 81 = .ok (.iinc 4 1, 3) := by decide +kernel
theorem dX9_isWithoutPair_84 : decode cX9_isWithoutPair 84 = .ok (.goto (-63), 3) := by decide +kernel
theorem dX9_isWithoutPair_87 : decode cX9_isWithoutPair 87 = .ok (.iinc 2 1, 3) := by decide +kernel
theorem dX9_isWithoutPair_90 : decode cX9_isWithoutPair 90 = .ok (.goto (-88), 3) := by decide +kernel
theorem dX9_isWithoutPair_93 : decode cX9_isWithoutPair 93 = .ok (.iconst 1, 1) := by decide +kernel
theorem dX9_isWithoutPair_94 : decode cX9_isWithoutPair 94 = .ok (.ireturn, 1) := by decide +kernel
theorem dX9_coversLacks_0 : decode cX9_coversLacks 0 = .ok (.iconst 0, 1) := by decide +kernel
theorem dX9_coversLacks_1 : decode cX9_coversLacks 1 = .ok (.istore_n 2, 1) := by decide +kernel
theorem dX9_coversLacks_2 : decode cX9_coversLacks 2 = .ok (.iload_n 2, 1) := by decide +kernel
theorem dX9_coversLacks_3 : decode cX9_coversLacks 3 = .ok (.aload_n 0, 1) := by decide +kernel
theorem dX9_coversLacks_4 : decode cX9_coversLacks 4 = .ok (.getfield 97, 3) := by decide +kernel
theorem dX9_coversLacks_7 : decode cX9_coversLacks 7 = .ok (.if_icmp .ge 53, 3) := by decide +kernel
theorem dX9_coversLacks_10 : decode cX9_coversLacks 10 = .ok (.iload_n 2, 1) := by decide +kernel
theorem dX9_coversLacks_11 : decode cX9_coversLacks 11 = .ok (.aload_n 0, 1) := by decide +kernel
theorem dX9_coversLacks_12 : decode cX9_coversLacks 12 = .ok (.getfield 34, 3) := by decide +kernel
theorem dX9_coversLacks_15 : decode cX9_coversLacks 15 = .ok (.arraylength, 1) := by decide +kernel
theorem dX9_coversLacks_16 : decode cX9_coversLacks 16 = .ok (.if_icmp .ge 44, 3) := by decide +kernel
theorem dX9_coversLacks_19 : decode cX9_coversLacks 19 = .ok (.iload_n 2, 1) := by decide +kernel
theorem dX9_coversLacks_20 : decode cX9_coversLacks 20 = .ok (.aload_n 0, 1) := by decide +kernel
theorem dX9_coversLacks_21 : decode cX9_coversLacks 21 = .ok (.getfield 30, 3) := by decide +kernel
theorem dX9_coversLacks_24 : decode cX9_coversLacks 24 = .ok (.arraylength, 1) := by decide +kernel
theorem dX9_coversLacks_25 : decode cX9_coversLacks 25 = .ok (.if_icmp .ge 35, 3) := by decide +kernel
theorem dX9_coversLacks_28 : decode cX9_coversLacks 28 = .ok (.aload_n 0, 1) := by decide +kernel
theorem dX9_coversLacks_29 : decode cX9_coversLacks 29 = .ok (.iload_n 1, 1) := by decide +kernel
theorem dX9_coversLacks_30 : decode cX9_coversLacks 30 = .ok (.bipush 7, 2) := by decide +kernel
theorem dX9_coversLacks_32 : decode cX9_coversLacks 32 = .ok (.aload_n 0, 1) := by decide +kernel
theorem dX9_coversLacks_33 : decode cX9_coversLacks 33 = .ok (.getfield 30, 3) := by decide +kernel
theorem dX9_coversLacks_36 : decode cX9_coversLacks 36 = .ok (.iload_n 2, 1) := by decide +kernel
theorem dX9_coversLacks_37 : decode cX9_coversLacks 37 = .ok (.iaload, 1) := by decide +kernel
theorem dX9_coversLacks_38 : decode cX9_coversLacks 38 = .ok (.imul, 1) := by decide +kernel
theorem dX9_coversLacks_39 : decode cX9_coversLacks 39 = .ok (.invokevirtual 141, 3) := by decide +kernel
theorem dX9_coversLacks_42 : decode cX9_coversLacks 42 = .ok (.aload_n 0, 1) := by decide +kernel
theorem dX9_coversLacks_43 : decode cX9_coversLacks 43 = .ok (.getfield 34, 3) := by decide +kernel
theorem dX9_coversLacks_46 : decode cX9_coversLacks 46 = .ok (.iload_n 2, 1) := by decide +kernel
theorem dX9_coversLacks_47 : decode cX9_coversLacks 47 = .ok (.laload, 1) := by decide +kernel
theorem dX9_coversLacks_48 : decode cX9_coversLacks 48 = .ok (.lcmp, 1) := by decide +kernel
theorem dX9_coversLacks_49 : decode cX9_coversLacks 49 = .ok (.ifCond .ge 5, 3) := by decide +kernel
theorem dX9_coversLacks_52 : decode cX9_coversLacks 52 = .ok (.iconst 0, 1) := by decide +kernel
theorem dX9_coversLacks_53 : decode cX9_coversLacks 53 = .ok (.ireturn, 1) := by decide +kernel
theorem dX9_coversLacks_54 : decode cX9_coversLacks 54 = .ok (.iinc 2 1, 3) := by decide +kernel
theorem dX9_coversLacks_57 : decode cX9_coversLacks 57 = .ok (.goto (-55), 3) := by decide +kernel
theorem dX9_coversLacks_60 : decode cX9_coversLacks 60 = .ok (.iconst 1, 1) := by decide +kernel
theorem dX9_coversLacks_61 : decode cX9_coversLacks 61 = .ok (.ireturn, 1) := by decide +kernel
theorem dX9_roomBy_0 : decode cX9_roomBy 0 = .ok (.lconst 0, 1) := by decide +kernel
theorem dX9_roomBy_1 : decode cX9_roomBy 1 = .ok (.lstore_n 3, 1) := by decide +kernel
theorem dX9_roomBy_2 : decode cX9_roomBy 2 = .ok (.iconst 0, 1) := by decide +kernel
theorem dX9_roomBy_3 : decode cX9_roomBy 3 = .ok (.istore 5, 2) := by decide +kernel
theorem dX9_roomBy_5 : decode cX9_roomBy 5 = .ok (.iload 5, 2) := by decide +kernel
theorem dX9_roomBy_7 : decode cX9_roomBy 7 = .ok (.aload_n 0, 1) := by decide +kernel
theorem dX9_roomBy_8 : decode cX9_roomBy 8 = .ok (.getfield 38, 3) := by decide +kernel
theorem dX9_roomBy_11 : decode cX9_roomBy 11 = .ok (.if_icmp .ge 43, 3) := by decide +kernel
theorem dX9_roomBy_14 : decode cX9_roomBy 14 = .ok (.aload_n 0, 1) := by decide +kernel
theorem dX9_roomBy_15 : decode cX9_roomBy 15 = .ok (.iload 5, 2) := by decide +kernel
theorem dX9_roomBy_17 : decode cX9_roomBy 17 = .ok (.invokevirtual 107, 3) := by decide +kernel
theorem dX9_roomBy_20 : decode cX9_roomBy 20 = .ok (.astore 6, 2) := by decide +kernel
theorem dX9_roomBy_22 : decode cX9_roomBy 22 = .ok (.aload 6, 2) := by decide +kernel
theorem dX9_roomBy_24 : decode cX9_roomBy 24 = .ok (.ifnull 24, 3) := by decide +kernel
theorem dX9_roomBy_27 : decode cX9_roomBy 27 = .ok (.iload_n 1, 1) := by decide +kernel
theorem dX9_roomBy_28 : decode cX9_roomBy 28 = .ok (.iload 5, 2) := by decide +kernel
theorem dX9_roomBy_30 : decode cX9_roomBy 30 = .ok (.ishr, 1) := by decide +kernel
theorem dX9_roomBy_31 : decode cX9_roomBy 31 = .ok (.iconst 1, 1) := by decide +kernel
theorem dX9_roomBy_32 : decode cX9_roomBy 32 = .ok (.iand, 1) := by decide +kernel
end
section
theorem dX9_roomBy_33 : decode cX9_roomBy 33 = .ok (.ifCond .eq 15, 3) := by decide +kernel
theorem dX9_roomBy_36 : decode cX9_roomBy 36 = .ok (.lload_n 3, 1) := by decide +kernel
theorem dX9_roomBy_37 : decode cX9_roomBy 37 = .ok (.aload 6, 2) := by decide +kernel
theorem dX9_roomBy_39 : decode cX9_roomBy 39 = .ok (.getfield 111, 3) := by decide +kernel
theorem dX9_roomBy_42 : decode cX9_roomBy 42 = .ok (.iload_n 2, 1) := by decide +kernel
theorem dX9_roomBy_43 : decode cX9_roomBy 43 = .ok (.invokevirtual 144, 3) := by decide +kernel
theorem dX9_roomBy_46 : decode cX9_roomBy 46 = .ok (.ladd, 1) := by decide +kernel
theorem dX9_roomBy_47 : decode cX9_roomBy 47 = .ok (.lstore_n 3, 1) := by decide +kernel
theorem dX9_roomBy_48 : decode cX9_roomBy 48 = .ok (.iinc 5 1, 3) := by decide +kernel
theorem dX9_roomBy_51 : decode cX9_roomBy 51 = .ok (.goto (-46), 3) := by decide +kernel
theorem dX9_roomBy_54 : decode cX9_roomBy 54 = .ok (.lload_n 3, 1) := by decide +kernel
theorem dX9_roomBy_55 : decode cX9_roomBy 55 = .ok (.lreturn, 1) := by decide +kernel
theorem dX10_init_0 : decode cX10_init 0 = .ok (.aload_n 0, 1) := by decide +kernel
theorem dX10_init_1 : decode cX10_init 1 = .ok (.invokespecial 1, 3) := by decide +kernel
theorem dX10_init_4 : decode cX10_init 4 = .ok (.aload_n 0, 1) := by decide +kernel
theorem dX10_init_5 : decode cX10_init 5 = .ok (.new 7, 3) := by decide +kernel
theorem dX10_init_8 : decode cX10_init 8 = .ok (.dup, 1) := by decide +kernel
theorem dX10_init_9 : decode cX10_init 9 = .ok (.invokespecial 9, 3) := by decide +kernel
theorem dX10_init_12 : decode cX10_init 12 = .ok (.putfield 10, 3) := by decide +kernel
theorem dX10_init_15 : decode cX10_init 15 = .ok (.aload_n 0, 1) := by decide +kernel
theorem dX10_init_16 : decode cX10_init 16 = .ok (.new 16, 3) := by decide +kernel
theorem dX10_init_19 : decode cX10_init 19 = .ok (.dup, 1) := by decide +kernel
theorem dX10_init_20 : decode cX10_init 20 = .ok (.invokespecial 18, 3) := by decide +kernel
theorem dX10_init_23 : decode cX10_init 23 = .ok (.putfield 19, 3) := by decide +kernel
theorem dX10_init_26 : decode cX10_init 26 = .ok (.aload_n 0, 1) := by decide +kernel
theorem dX10_init_27 : decode cX10_init 27 = .ok (.iconst 4, 1) := by decide +kernel
theorem dX10_init_28 : decode cX10_init 28 = .ok (.anewarray 23, 3) := by decide +kernel
theorem dX10_init_31 : decode cX10_init 31 = .ok (.putfield 25, 3) := by decide +kernel
theorem dX10_init_34 : decode cX10_init 34 = .ok (.iconst 0, 1) := by decide +kernel
theorem dX10_init_35 : decode cX10_init 35 = .ok (.istore_n 1, 1) := by decide +kernel
theorem dX10_init_36 : decode cX10_init 36 = .ok (.iload_n 1, 1) := by decide +kernel
theorem dX10_init_37 : decode cX10_init 37 = .ok (.iconst 4, 1) := by decide +kernel
theorem dX10_init_38 : decode cX10_init 38 = .ok (.if_icmp .ge 22, 3) := by decide +kernel
theorem dX10_init_41 : decode cX10_init 41 = .ok (.aload_n 0, 1) := by decide +kernel
theorem dX10_init_42 : decode cX10_init 42 = .ok (.getfield 25, 3) := by decide +kernel
theorem dX10_init_45 : decode cX10_init 45 = .ok (.iload_n 1, 1) := by decide +kernel
theorem dX10_init_46 : decode cX10_init 46 = .ok (.new 23, 3) := by decide +kernel
theorem dX10_init_49 : decode cX10_init 49 = .ok (.dup, 1) := by decide +kernel
theorem dX10_init_50 : decode cX10_init 50 = .ok (.invokespecial 29, 3) := by decide +kernel
theorem dX10_init_53 : decode cX10_init 53 = .ok (.aastore, 1) := by decide +kernel
theorem dX10_init_54 : decode cX10_init 54 = .ok (.iinc 1 1, 3) := by decide +kernel
theorem dX10_init_57 : decode cX10_init 57 = .ok (.goto (-21), 3) := by decide +kernel
theorem dX10_init_60 : decode cX10_init 60 = .ok (.aload_n 0, 1) := by decide +kernel
theorem dX10_init_61 : decode cX10_init 61 = .ok (.new 30, 3) := by decide +kernel
theorem dX10_init_64 : decode cX10_init 64 = .ok (.dup, 1) := by decide +kernel
theorem dX10_init_65 : decode cX10_init 65 = .ok (.aload_n 0, 1) := by decide +kernel
theorem dX10_init_66 : decode cX10_init 66 = .ok (.getfield 10, 3) := by decide +kernel
theorem dX10_init_69 : decode cX10_init 69 = .ok (.invokespecial 32, 3) := by decide +kernel
theorem dX10_init_72 : decode cX10_init 72 = .ok (.putfield 35, 3) := by decide +kernel
theorem dX10_init_75 : decode cX10_init 75 = .ok (.aload_n 0, 1) := by decide +kernel
theorem dX10_init_76 : decode cX10_init 76 = .ok (.iconst 0, 1) := by decide +kernel
theorem dX10_init_77 : decode cX10_init 77 = .ok (.putfield 39, 3) := by decide +kernel
theorem dX10_init_80 : decode cX10_init 80 = .ok (.return_, 1) := by decide +kernel
theorem dX10_now_0 : decode cX10_now 0 = .ok (.aload_n 0, 1) := by decide +kernel
theorem dX10_now_1 : decode cX10_now 1 = .ok (.iload_n 1, 1) := by decide +kernel
theorem dX10_now_2 : decode cX10_now 2 = .ok (.invokevirtual 43, 3) := by decide +kernel
theorem dX10_now_5 : decode cX10_now 5 = .ok (.ifCond .ne 6, 3) := by decide +kernel
theorem dX10_now_8 : decode cX10_now 8 = .ok (.bipush (-2), 2) := by decide +kernel
theorem dX10_now_10 : decode cX10_now 10 = .ok (.ireturn, 1) := by decide +kernel
theorem dX10_now_11 : decode cX10_now 11 = .ok (.aload_n 0, 1) := by decide +kernel
theorem dX10_now_12 : decode cX10_now 12 = .ok (.iload_n 1, 1) := by decide +kernel
theorem dX10_now_13 : decode cX10_now 13 = .ok (.putfield 39, 3) := by decide +kernel
theorem dX10_now_16 : decode cX10_now 16 = .ok (.iload_n 1, 1) := by decide +kernel
theorem dX10_now_17 : decode cX10_now 17 = .ok (.ireturn, 1) := by decide +kernel
theorem dX10_block_0 : decode cX10_block 0 = .ok (.iload_n 1, 1) := by decide +kernel
theorem dX10_block_1 : decode cX10_block 1 = .ok (.iload_n 2, 1) := by decide +kernel
theorem dX10_block_2 : decode cX10_block 2 = .ok (.iload_n 3, 1) := by decide +kernel
theorem dX10_block_3 : decode cX10_block 3 = .ok (.iload 4, 2) := by decide +kernel
theorem dX10_block_5 : decode cX10_block 5 = .ok (.invokestatic 47, 3) := by decide +kernel
theorem dX10_block_8 : decode cX10_block 8 = .ok (.ifCond .eq 12, 3) := by decide +kernel
theorem dX10_block_11 : decode cX10_block 11 = .ok (.aload_n 0, 1) := by decide +kernel
theorem dX10_block_12 : decode cX10_block 12 = .ok (.iload 5, 2) := by decide +kernel
theorem dX10_block_14 : decode cX10_block 14 = .ok (.invokevirtual 43, 3) := by decide +kernel
theorem dX10_block_17 : decode cX10_block 17 = .ok (.ifCond .ne 6, 3) := by decide +kernel
theorem dX10_block_20 : decode cX10_block 20 = .ok (.bipush (-2), 2) := by decide +kernel
theorem dX10_block_22 : decode cX10_block 22 = .ok (.ireturn, 1) := by decide +kernel
theorem dX10_block_23 : decode cX10_block 23 = .ok (.aload_n 0, 1) := by decide +kernel
theorem dX10_block_24 : decode cX10_block 24 = .ok (.getfield 10, 3) := by decide +kernel
theorem dX10_block_27 : decode cX10_block 27 = .ok (.new 51, 3) := by decide +kernel
theorem dX10_block_30 : decode cX10_block 30 = .ok (.dup, 1) := by decide +kernel
theorem dX10_block_31 : decode cX10_block 31 = .ok (.iconst 0, 1) := by decide +kernel
theorem dX10_block_32 : decode cX10_block 32 = .ok (.iload_n 1, 1) := by decide +kernel
theorem dX10_block_33 : decode cX10_block 33 = .ok (.iload_n 2, 1) := by decide +kernel
theorem dX10_block_34 : decode cX10_block 34 = .ok (.iload_n 3, 1) := by decide +kernel
theorem dX10_block_35 : decode cX10_block 35 = .ok (.iload 4, 2) := by decide +kernel
theorem dX10_block_37 : decode cX10_block 37 = .ok (.iload 4, 2) := by decide +kernel
theorem dX10_block_39 : decode cX10_block 39 = .ok (.iload 5, 2) := by decide +kernel
theorem dX10_block_41 : decode cX10_block 41 = .ok (.invokespecial 53, 3) := by decide +kernel
theorem dX10_block_44 : decode cX10_block 44 = .ok (.invokevirtual 56, 3) := by decide +kernel
theorem dX10_block_47 : decode cX10_block 47 = .ok (.ireturn, 1) := by decide +kernel
theorem dX10_service_0 : decode cX10_service 0 = .ok (.iload_n 1, 1) := by decide +kernel
theorem dX10_service_1 : decode cX10_service 1 = .ok (.i2l, 1) := by decide +kernel
theorem dX10_service_2 : decode cX10_service 2 = .ok (.invokestatic 60, 3) := by decide +kernel
theorem dX10_service_5 : decode cX10_service 5 = .ok (.istore 4, 2) := by decide +kernel
theorem dX10_service_7 : decode cX10_service 7 = .ok (.iload 4, 2) := by decide +kernel
theorem dX10_service_9 : decode cX10_service 9 = .ok (.iconst 2, 1) := by decide +kernel
theorem dX10_service_10 : decode cX10_service 10 = .ok (.bipush 7, 2) := by decide +kernel
theorem dX10_service_12 : decode cX10_service 12 = .ok (.invokestatic 64, 3) := by decide +kernel
theorem dX10_service_15 : decode cX10_service 15 = .ok (.ifCond .eq 21, 3) := by decide +kernel
theorem dX10_service_18 : decode cX10_service 18 = .ok (.iload_n 2, 1) := by decide +kernel
theorem dX10_service_19 : decode cX10_service 19 = .ok (.iconst 0, 1) := by decide +kernel
theorem dX10_service_20 : decode cX10_service 20 = .ok (.bipush 99, 2) := by decide +kernel
theorem dX10_service_22 : decode cX10_service 22 = .ok (.invokestatic 64, 3) := by decide +kernel
theorem dX10_service_25 : decode cX10_service 25 = .ok (.ifCond .eq 11, 3) := by decide +kernel
theorem dX10_service_28 : decode cX10_service 28 = .ok (.aload_n 0, 1) := by decide +kernel
theorem dX10_service_29 : decode cX10_service 29 = .ok (.iload_n 3, 1) := by decide +kernel
theorem dX10_service_30 : decode cX10_service 30 = .ok (.invokevirtual 43, 3) := by decide +kernel
theorem dX10_service_33 : decode cX10_service 33 = .ok (.ifCond .ne 6, 3) := by decide +kernel
theorem dX10_service_36 : decode cX10_service 36 = .ok (.bipush (-2), 2) := by decide +kernel
theorem dX10_service_38 : decode cX10_service 38 = .ok (.ireturn, 1) := by decide +kernel
theorem dX10_service_39 : decode cX10_service 39 = .ok (.aload_n 0, 1) := by decide +kernel
theorem dX10_service_40 : decode cX10_service 40 = .ok (.getfield 10, 3) := by decide +kernel
theorem dX10_service_43 : decode cX10_service 43 = .ok (.new 51, 3) := by decide +kernel
theorem dX10_service_46 : decode cX10_service 46 = .ok (.dup, 1) := by decide +kernel
theorem dX10_service_47 : decode cX10_service 47 = .ok (.iconst 1, 1) := by decide +kernel
theorem dX10_service_48 : decode cX10_service 48 = .ok (.iload_n 2, 1) := by decide +kernel
theorem dX10_service_49 : decode cX10_service 49 = .ok (.iload_n 1, 1) := by decide +kernel
theorem dX10_service_50 : decode cX10_service 50 = .ok (.iconst 0, 1) := by decide +kernel
theorem dX10_service_51 : decode cX10_service 51 = .ok (.iload 4, 2) := by decide +kernel
theorem dX10_service_53 : decode cX10_service 53 = .ok (.iload 4, 2) := by decide +kernel
theorem dX10_service_55 : decode cX10_service 55 = .ok (.iload_n 3, 1) := by decide +kernel
theorem dX10_service_56 : decode cX10_service 56 = .ok (.invokespecial 53, 3) := by decide +kernel
theorem dX10_service_59 : decode cX10_service 59 = .ok (.invokevirtual 56, 3) := by decide +kernel
theorem dX10_service_62 : decode cX10_service 62 = .ok (.ireturn, 1) := by decide +kernel
theorem dX10_foreign_0 : decode cX10_foreign 0 = .ok (.iload_n 1, 1) := by decide +kernel
theorem dX10_foreign_1 : decode cX10_foreign 1 = .ok (.i2l, 1) := by decide +kernel
theorem dX10_foreign_2 : decode cX10_foreign 2 = .ok (.invokestatic 60, 3) := by decide +kernel
theorem dX10_foreign_5 : decode cX10_foreign 5 = .ok (.istore 5, 2) := by decide +kernel
theorem dX10_foreign_7 : decode cX10_foreign 7 = .ok (.iload 5, 2) := by decide +kernel
theorem dX10_foreign_9 : decode cX10_foreign 9 = .ok (.iconst 1, 1) := by decide +kernel
theorem dX10_foreign_10 : decode cX10_foreign 10 = .ok (.iconst 4, 1) := by decide +kernel
theorem dX10_foreign_11 : decode cX10_foreign 11 = .ok (.invokestatic 64, 3) := by decide +kernel
theorem dX10_foreign_14 : decode cX10_foreign 14 = .ok (.ifCond .eq 12, 3) := by decide +kernel
theorem dX10_foreign_17 : decode cX10_foreign 17 = .ok (.aload_n 0, 1) := by decide +kernel
theorem dX10_foreign_18 : decode cX10_foreign 18 = .ok (.iload 4, 2) := by decide +kernel
theorem dX10_foreign_20 : decode cX10_foreign 20 = .ok (.invokevirtual 43, 3) := by decide +kernel
theorem dX10_foreign_23 : decode cX10_foreign 23 = .ok (.ifCond .ne 6, 3) := by decide +kernel
theorem dX10_foreign_26 : decode cX10_foreign 26 = .ok (.bipush (-2), 2) := by decide +kernel
theorem dX10_foreign_28 : decode cX10_foreign 28 = .ok (.ireturn, 1) := by decide +kernel
theorem dX10_foreign_29 : decode cX10_foreign 29 = .ok (.iload_n 2, 1) := by decide +kernel
theorem dX10_foreign_30 : decode cX10_foreign 30 = .ok (.iload 5, 2) := by decide +kernel
theorem dX10_foreign_32 : decode cX10_foreign 32 = .ok (.if_icmp .le 14, 3) := by decide +kernel
theorem dX10_foreign_35 : decode cX10_foreign 35 = .ok (.iload_n 3, 1) := by decide +kernel
theorem dX10_foreign_36 : decode cX10_foreign 36 = .ok (.iload_n 2, 1) := by decide +kernel
theorem dX10_foreign_37 : decode cX10_foreign 37 = .ok (.if_icmp .lt 9, 3) := by decide +kernel
theorem dX10_foreign_40 : decode cX10_foreign 40 = .ok (.iload_n 3, 1) := by decide +kernel
theorem dX10_foreign_41 : decode cX10_foreign 41 = .ok (.bipush 15, 2) := by decide +kernel
theorem dX10_foreign_43 : decode cX10_foreign 43 = .ok (.if_icmp .le 6, 3) := by decide +kernel
theorem dX10_foreign_46 : decode cX10_foreign 46 = .ok (.bipush (-2), 2) := by decide +kernel
theorem dX10_foreign_48 : decode cX10_foreign 48 = .ok (.ireturn, 1) := by decide +kernel
theorem dX10_foreign_49 : decode cX10_foreign 49 = .ok (.aload_n 0, 1) := by decide +kernel
theorem dX10_foreign_50 : decode cX10_foreign 50 = .ok (.getfield 10, 3) := by decide +kernel
theorem dX10_foreign_53 : decode cX10_foreign 53 = .ok (.new 51, 3) := by decide +kernel
theorem dX10_foreign_56 : decode cX10_foreign 56 = .ok (.dup, 1) := by decide +kernel
theorem dX10_foreign_57 : decode cX10_foreign 57 = .ok (.iconst 2, 1) := by decide +kernel
theorem dX10_foreign_58 : decode cX10_foreign 58 = .ok (.iconst (-1), 1) := by decide +kernel
theorem dX10_foreign_59 : decode cX10_foreign 59 = .ok (.iload_n 1, 1) := by decide +kernel
theorem dX10_foreign_60 : decode cX10_foreign 60 = .ok (.iconst 0, 1) := by decide +kernel
theorem dX10_foreign_61 : decode cX10_foreign 61 = .ok (.iload_n 2, 1) := by decide +kernel
theorem dX10_foreign_62 : decode cX10_foreign 62 = .ok (.iload_n 3, 1) := by decide +kernel
theorem dX10_foreign_63 : decode cX10_foreign 63 = .ok (.iload 4, 2) := by decide +kernel
theorem dX10_foreign_65 : decode cX10_foreign 65 = .ok (.invokespecial 53, 3) := by decide +kernel
theorem dX10_foreign_68 : decode cX10_foreign 68 = .ok (.invokevirtual 56, 3) := by decide +kernel
theorem dX10_foreign_71 : decode cX10_foreign 71 = .ok (.ireturn, 1) := by decide +kernel
theorem dX10_finish_0 : decode cX10_finish 0 = .ok (.aload_n 0, 1) := by decide +kernel
theorem dX10_finish_1 : decode cX10_finish 1 = .ok (.getfield 10, 3) := by decide +kernel
theorem dX10_finish_4 : decode cX10_finish 4 = .ok (.iload_n 1, 1) := by decide +kernel
theorem dX10_finish_5 : decode cX10_finish 5 = .ok (.invokevirtual 68, 3) := by decide +kernel
theorem dX10_finish_8 : decode cX10_finish 8 = .ok (.astore_n 3, 1) := by decide +kernel
theorem dX10_finish_9 : decode cX10_finish 9 = .ok (.aload_n 3, 1) := by decide +kernel
theorem dX10_finish_10 : decode cX10_finish 10 = .ok (.ifnull 27, 3) := by decide +kernel
theorem dX10_finish_13 : decode cX10_finish 13 = .ok (.aload_n 3, 1) := by decide +kernel
theorem dX10_finish_14 : decode cX10_finish 14 = .ok (.getfield 72, 3) := by decide +kernel
theorem dX10_finish_17 : decode cX10_finish 17 = .ok (.iconst 3, 1) := by decide +kernel
theorem dX10_finish_18 : decode cX10_finish 18 = .ok (.if_icmp .eq 19, 3) := by decide +kernel
theorem dX10_finish_21 : decode cX10_finish 21 = .ok (.aload_n 0, 1) := by decide +kernel
theorem dX10_finish_22 : decode cX10_finish 22 = .ok (.iload_n 2, 1) := by decide +kernel
theorem dX10_finish_23 : decode cX10_finish 23 = .ok (.invokevirtual 43, 3) := by decide +kernel
theorem dX10_finish_26 : decode cX10_finish 26 = .ok (.ifCond .eq 11, 3) := by decide +kernel
theorem dX10_finish_29 : decode cX10_finish 29 = .ok (.aload_n 3, 1) := by decide +kernel
theorem dX10_finish_30 : decode cX10_finish 30 = .ok (.iload_n 2, 1) := by decide +kernel
theorem dX10_finish_31 : decode cX10_finish 31 = .ok (.invokevirtual 75, 3) := by decide +kernel
theorem dX10_finish_34 : decode cX10_finish 34 = .ok (.ifCond .ne 6, 3) := by decide +kernel
theorem dX10_finish_37 : decode cX10_finish 37 = .ok (.bipush (-2), 2) := by decide +kernel
theorem dX10_finish_39 : decode cX10_finish 39 = .ok (.ireturn, 1) := by decide +kernel
theorem dX10_finish_40 : decode cX10_finish 40 = .ok (.aload_n 3, 1) := by decide +kernel
theorem dX10_finish_41 : decode cX10_finish 41 = .ok (.iload_n 2, 1) := by decide +kernel
theorem dX10_finish_42 : decode cX10_finish 42 = .ok (.putfield 78, 3) := by decide +kernel
theorem dX10_finish_45 : decode cX10_finish 45 = .ok (.iconst 1, 1) := by decide +kernel
theorem dX10_finish_46 : decode cX10_finish 46 = .ok (.ireturn, 1) := by decide +kernel
theorem dX10_split_0 : decode cX10_split 0 = .ok (.aload_n 0, 1) := by decide +kernel
theorem dX10_split_1 : decode cX10_split 1 = .ok (.getfield 10, 3) := by decide +kernel
theorem dX10_split_4 : decode cX10_split 4 = .ok (.iload_n 1, 1) := by decide +kernel
theorem dX10_split_5 : decode cX10_split 5 = .ok (.invokevirtual 81, 3) := by decide +kernel
theorem dX10_split_8 : decode cX10_split 8 = .ok (.astore 7, 2) := by decide +kernel
theorem dX10_split_10 : decode cX10_split 10 = .ok (.iload_n 3, 1) := by decide +kernel
theorem dX10_split_11 : decode cX10_split 11 = .ok (.i2l, 1) := by decide +kernel
theorem dX10_split_12 : decode cX10_split 12 = .ok (.invokestatic 60, 3) := by decide +kernel
theorem dX10_split_15 : decode cX10_split 15 = .ok (.istore 8, 2) := by decide +kernel
theorem dX10_split_17 : decode cX10_split 17 = .ok (.aload 7, 2) := by decide +kernel
theorem dX10_split_19 : decode cX10_split 19 = .ok (.ifnull 32, 3) := by decide +kernel
theorem dX10_split_22 : decode cX10_split 22 = .ok (.iload_n 2, 1) := by decide +kernel
theorem dX10_split_23 : decode cX10_split 23 = .ok (.ifCond .eq 28, 3) := by decide +kernel
theorem dX10_split_26 : decode cX10_split 26 = .ok (.iload_n 2, 1) := by decide +kernel
theorem dX10_split_27 : decode cX10_split 27 = .ok (.aload 7, 2) := by decide +kernel
theorem dX10_split_29 : decode cX10_split 29 = .ok (.getfield 84, 3) := by decide +kernel
theorem dX10_split_32 : decode cX10_split 32 = .ok (.iconst (-1), 1) := by decide +kernel
theorem dX10_split_33 : decode cX10_split 33 = .ok (.ixor, 1) := by decide +kernel
theorem dX10_split_34 : decode cX10_split 34 = .ok (.iand, 1) := by decide +kernel
theorem dX10_split_35 : decode cX10_split 35 = .ok (.ifCond .ne 16, 3) := by decide +kernel
theorem dX10_split_38 : decode cX10_split 38 = .ok (.aload_n 0, 1) := by decide +kernel
theorem dX10_split_39 : decode cX10_split 39 = .ok (.aload 7, 2) := by decide +kernel
theorem dX10_split_41 : decode cX10_split 41 = .ok (.iload 5, 2) := by decide +kernel
theorem dX10_split_43 : decode cX10_split 43 = .ok (.iload 6, 2) := by decide +kernel
theorem dX10_split_45 : decode cX10_split 45 = .ok (.invokevirtual 87, 3) := by decide +kernel
theorem dX10_split_48 : decode cX10_split 48 = .ok (.ifCond .ne 6, 3) := by decide +kernel
theorem dX10_split_51 : decode cX10_split 51 = .ok (.bipush (-2), 2) := by decide +kernel
theorem dX10_split_53 : decode cX10_split 53 = .ok (.ireturn, 1) := by decide +kernel
theorem dX10_split_54 : decode cX10_split 54 = .ok (.iload 8, 2) := by decide +kernel
theorem dX10_split_56 : decode cX10_split 56 = .ok (.iconst 1, 1) := by decide +kernel
theorem dX10_split_57 : decode cX10_split 57 = .ok (.bipush 7, 2) := by decide +kernel
theorem dX10_split_59 : decode cX10_split 59 = .ok (.invokestatic 64, 3) := by decide +kernel
theorem dX10_split_62 : decode cX10_split 62 = .ok (.ifCond .eq 14, 3) := by decide +kernel
theorem dX10_split_65 : decode cX10_split 65 = .ok (.iload 4, 2) := by decide +kernel
theorem dX10_split_67 : decode cX10_split 67 = .ok (.iconst 0, 1) := by decide +kernel
theorem dX10_split_68 : decode cX10_split 68 = .ok (.bipush 15, 2) := by decide +kernel
theorem dX10_split_70 : decode cX10_split 70 = .ok (.invokestatic 64, 3) := by decide +kernel
theorem dX10_split_73 : decode cX10_split 73 = .ok (.ifCond .ne 6, 3) := by decide +kernel
theorem dX10_split_76 : decode cX10_split 76 = .ok (.bipush (-2), 2) := by decide +kernel
theorem dX10_split_78 : decode cX10_split 78 = .ok (.ireturn, 1) := by decide +kernel
theorem dX10_split_79 : decode cX10_split 79 = .ok (.iload 8, 2) := by decide +kernel
theorem dX10_split_81 : decode cX10_split 81 = .ok (.aload 7, 2) := by decide +kernel
theorem dX10_split_83 : decode cX10_split 83 = .ok (.invokevirtual 91, 3) := by decide +kernel
theorem dX10_split_86 : decode cX10_split 86 = .ok (.iadd, 1) := by decide +kernel
theorem dX10_split_87 : decode cX10_split 87 = .ok (.istore 9, 2) := by decide +kernel
theorem dX10_split_89 : decode cX10_split 89 = .ok (.iload 9, 2) := by decide +kernel
theorem dX10_split_91 : decode cX10_split 91 = .ok (.bipush 12, 2) := by decide +kernel
theorem dX10_split_93 : decode cX10_split 93 = .ok (.if_icmp .le 6, 3) := by decide +kernel
theorem dX10_split_96 : decode cX10_split 96 = .ok (.bipush (-2), 2) := by decide +kernel
theorem dX10_split_98 : decode cX10_split 98 = .ok (.ireturn, 1) := by decide +kernel
theorem dX10_split_99 : decode cX10_split 99 = .ok (.aload_n 0, 1) := by decide +kernel
theorem dX10_split_100 : decode cX10_split 100 = .ok (.getfield 10, 3) := by decide +kernel
theorem dX10_split_103 : decode cX10_split 103 = .ok (.aload 7, 2) := by decide +kernel
theorem dX10_split_105 : decode cX10_split 105 = .ok (.new 51, 3) := by decide +kernel
theorem dX10_split_108 : decode cX10_split 108 = .ok (.dup, 1) := by decide +kernel
theorem dX10_split_109 : decode cX10_split 109 = .ok (.iconst 0, 1) := by decide +kernel
theorem dX10_split_110 : decode cX10_split 110 = .ok (.iload 4, 2) := by decide +kernel
theorem dX10_split_112 : decode cX10_split 112 = .ok (.iload_n 3, 1) := by decide +kernel
theorem dX10_split_113 : decode cX10_split 113 = .ok (.iload_n 2, 1) := by decide +kernel
theorem dX10_split_114 : decode cX10_split 114 = .ok (.iload 9, 2) := by decide +kernel
theorem dX10_split_116 : decode cX10_split 116 = .ok (.iload 9, 2) := by decide +kernel
theorem dX10_split_118 : decode cX10_split 118 = .ok (.iload 5, 2) := by decide +kernel
theorem dX10_split_120 : decode cX10_split 120 = .ok (.invokespecial 53, 3) := by decide +kernel
theorem dX10_split_123 : decode cX10_split 123 = .ok (.iload 6, 2) := by decide +kernel
theorem dX10_split_125 : decode cX10_split 125 = .ok (.invokevirtual 95, 3) := by decide +kernel
theorem dX10_split_128 : decode cX10_split 128 = .ok (.ireturn, 1) := by decide +kernel
theorem dX10_lengthen_0 : decode cX10_lengthen 0 = .ok (.aload_n 0, 1) := by decide +kernel
theorem dX10_lengthen_1 : decode cX10_lengthen 1 = .ok (.getfield 10, 3) := by decide +kernel
theorem dX10_lengthen_4 : decode cX10_lengthen 4 = .ok (.iload_n 1, 1) := by decide +kernel
theorem dX10_lengthen_5 : decode cX10_lengthen 5 = .ok (.invokevirtual 81, 3) := by decide +kernel
theorem dX10_lengthen_8 : decode cX10_lengthen 8 = .ok (.astore 5, 2) := by decide +kernel
theorem dX10_lengthen_10 : decode cX10_lengthen 10 = .ok (.aload 5, 2) := by decide +kernel
theorem dX10_lengthen_12 : decode cX10_lengthen 12 = .ok (.ifnull 25, 3) := by decide +kernel
theorem dX10_lengthen_15 : decode cX10_lengthen 15 = .ok (.iload_n 2, 1) := by decide +kernel
theorem dX10_lengthen_16 : decode cX10_lengthen 16 = .ok (.iconst 0, 1) := by decide +kernel
theorem dX10_lengthen_17 : decode cX10_lengthen 17 = .ok (.bipush 9, 2) := by decide +kernel
theorem dX10_lengthen_19 : decode cX10_lengthen 19 = .ok (.invokestatic 64, 3) := by decide +kernel
theorem dX10_lengthen_22 : decode cX10_lengthen 22 = .ok (.ifCond .eq 15, 3) := by decide +kernel
theorem dX10_lengthen_25 : decode cX10_lengthen 25 = .ok (.aload_n 0, 1) := by decide +kernel
theorem dX10_lengthen_26 : decode cX10_lengthen 26 = .ok (.aload 5, 2) := by decide +kernel
theorem dX10_lengthen_28 : decode cX10_lengthen 28 = .ok (.iload_n 3, 1) := by decide +kernel
theorem dX10_lengthen_29 : decode cX10_lengthen 29 = .ok (.iload 4, 2) := by decide +kernel
theorem dX10_lengthen_31 : decode cX10_lengthen 31 = .ok (.invokevirtual 87, 3) := by decide +kernel
theorem dX10_lengthen_34 : decode cX10_lengthen 34 = .ok (.ifCond .ne 6, 3) := by decide +kernel
theorem dX10_lengthen_37 : decode cX10_lengthen 37 = .ok (.bipush (-2), 2) := by decide +kernel
theorem dX10_lengthen_39 : decode cX10_lengthen 39 = .ok (.ireturn, 1) := by decide +kernel
theorem dX10_lengthen_40 : decode cX10_lengthen 40 = .ok (.aload 5, 2) := by decide +kernel
theorem dX10_lengthen_42 : decode cX10_lengthen 42 = .ok (.getfield 99, 3) := by decide +kernel
theorem dX10_lengthen_45 : decode cX10_lengthen 45 = .ok (.iconst 1, 1) := by decide +kernel
theorem dX10_lengthen_46 : decode cX10_lengthen 46 = .ok (.iadd, 1) := by decide +kernel
theorem dX10_lengthen_47 : decode cX10_lengthen 47 = .ok (.istore 6, 2) := by decide +kernel
theorem dX10_lengthen_49 : decode cX10_lengthen 49 = .ok (.aload 5, 2) := by decide +kernel
theorem dX10_lengthen_51 : decode cX10_lengthen 51 = .ok (.getfield 102, 3) := by decide +kernel
theorem dX10_lengthen_54 : decode cX10_lengthen 54 = .ok (.iconst 1, 1) := by decide +kernel
theorem dX10_lengthen_55 : decode cX10_lengthen 55 = .ok (.iadd, 1) := by decide +kernel
theorem dX10_lengthen_56 : decode cX10_lengthen 56 = .ok (.bipush 7, 2) := by decide +kernel
theorem dX10_lengthen_58 : decode cX10_lengthen 58 = .ok (.if_icmp .gt 10, 3) := by decide +kernel
theorem dX10_lengthen_61 : decode cX10_lengthen 61 = .ok (.iload 6, 2) := by decide +kernel
theorem dX10_lengthen_63 : decode cX10_lengthen 63 = .ok (.bipush 12, 2) := by decide +kernel
theorem dX10_lengthen_65 : decode cX10_lengthen 65 = .ok (.if_icmp .le 6, 3) := by decide +kernel
theorem dX10_lengthen_68 : decode cX10_lengthen 68 = .ok (.bipush (-2), 2) := by decide +kernel
theorem dX10_lengthen_70 : decode cX10_lengthen 70 = .ok (.ireturn, 1) := by decide +kernel
theorem dX10_lengthen_71 : decode cX10_lengthen 71 = .ok (.aload 5, 2) := by decide +kernel
theorem dX10_lengthen_73 : decode cX10_lengthen 73 = .ok (.getfield 105, 3) := by decide +kernel
theorem dX10_lengthen_76 : decode cX10_lengthen 76 = .ok (.bipush 10, 2) := by decide +kernel
theorem dX10_lengthen_78 : decode cX10_lengthen 78 = .ok (.imul, 1) := by decide +kernel
theorem dX10_lengthen_79 : decode cX10_lengthen 79 = .ok (.iload_n 2, 1) := by decide +kernel
theorem dX10_lengthen_80 : decode cX10_lengthen 80 = .ok (.iadd, 1) := by decide +kernel
theorem dX10_lengthen_81 : decode cX10_lengthen 81 = .ok (.istore 7, 2) := by decide +kernel
theorem dX10_lengthen_83 : decode cX10_lengthen 83 = .ok (.aload_n 0, 1) := by decide +kernel
theorem dX10_lengthen_84 : decode cX10_lengthen 84 = .ok (.getfield 10, 3) := by decide +kernel
theorem dX10_lengthen_87 : decode cX10_lengthen 87 = .ok (.aload 5, 2) := by decide +kernel
theorem dX10_lengthen_89 : decode cX10_lengthen 89 = .ok (.new 51, 3) := by decide +kernel
theorem dX10_lengthen_92 : decode cX10_lengthen 92 = .ok (.dup, 1) := by decide +kernel
theorem dX10_lengthen_93 : decode cX10_lengthen 93 = .ok (.iconst 0, 1) := by decide +kernel
theorem dX10_lengthen_94 : decode cX10_lengthen 94 = .ok (.aload 5, 2) := by decide +kernel
theorem dX10_lengthen_96 : decode cX10_lengthen 96 = .ok (.getfield 108, 3) := by decide +kernel
theorem dX10_lengthen_99 : decode cX10_lengthen 99 = .ok (.iload 7, 2) := by decide +kernel
theorem dX10_lengthen_101 : decode cX10_lengthen 101 = .ok (.aload 5, 2) := by decide +kernel
theorem dX10_lengthen_103 : decode cX10_lengthen 103 = .ok (.getfield 84, 3) := by decide +kernel
theorem dX10_lengthen_106 : decode cX10_lengthen 106 = .ok (.iload 6, 2) := by decide +kernel
theorem dX10_lengthen_108 : decode cX10_lengthen 108 = .ok (.iload 6, 2) := by decide +kernel
theorem dX10_lengthen_110 : decode cX10_lengthen 110 = .ok (.iload_n 3, 1) := by decide +kernel
theorem dX10_lengthen_111 : decode cX10_lengthen 111 = .ok (.invokespecial 53, 3) := by decide +kernel
theorem dX10_lengthen_114 : decode cX10_lengthen 114 = .ok (.iload 4, 2) := by decide +kernel
theorem dX10_lengthen_116 : decode cX10_lengthen 116 = .ok (.invokevirtual 95, 3) := by decide +kernel
theorem dX10_lengthen_119 : decode cX10_lengthen 119 = .ok (.ireturn, 1) := by decide +kernel
theorem dX10_entry_0 : decode cX10_entry 0 = .ok (.aload_n 0, 1) := by decide +kernel
theorem dX10_entry_1 : decode cX10_entry 1 = .ok (.getfield 10, 3) := by decide +kernel
theorem dX10_entry_4 : decode cX10_entry 4 = .ok (.iload_n 1, 1) := by decide +kernel
theorem dX10_entry_5 : decode cX10_entry 5 = .ok (.invokevirtual 68, 3) := by decide +kernel
theorem dX10_entry_8 : decode cX10_entry 8 = .ok (.astore_n 3, 1) := by decide +kernel
theorem dX10_entry_9 : decode cX10_entry 9 = .ok (.aload_n 3, 1) := by decide +kernel
theorem dX10_entry_10 : decode cX10_entry 10 = .ok (.ifnonnull 7, 3) := by decide +kernel
theorem dX10_entry_13 : decode cX10_entry 13 = .ok (.iconst (-1), 1) := by decide +kernel
theorem dX10_entry_14 : decode cX10_entry 14 = .ok (.goto 8, 3) := by decide +kernel
theorem dX10_entry_17 : decode cX10_entry 17 = .ok (.aload_n 3, 1) := by decide +kernel
theorem dX10_entry_18 : decode cX10_entry 18 = .ok (.iload_n 2, 1) := by decide +kernel
theorem dX10_entry_19 : decode cX10_entry 19 = .ok (.invokevirtual 111, 3) := by decide +kernel
theorem dX10_entry_22 : decode cX10_entry 22 = .ok (.ireturn, 1) := by decide +kernel
theorem dX10_pairs_0 : decode cX10_pairs 0 = .ok (.iload_n 1, 1) := by decide +kernel
theorem dX10_pairs_1 : decode cX10_pairs 1 = .ok (.invokestatic 115, 3) := by decide +kernel
theorem dX10_pairs_4 : decode cX10_pairs 4 = .ok (.ifCond .eq 14, 3) := by decide +kernel
theorem dX10_pairs_7 : decode cX10_pairs 7 = .ok (.aload_n 0, 1) := by decide +kernel
theorem dX10_pairs_8 : decode cX10_pairs 8 = .ok (.getfield 10, 3) := by decide +kernel
theorem dX10_pairs_11 : decode cX10_pairs 11 = .ok (.iload_n 1, 1) := by decide +kernel
theorem dX10_pairs_12 : decode cX10_pairs 12 = .ok (.invokevirtual 118, 3) := by decide +kernel
theorem dX10_pairs_15 : decode cX10_pairs 15 = .ok (.goto 5, 3) := by decide +kernel
theorem dX10_pairs_18 : decode cX10_pairs 18 = .ok (.bipush (-2), 2) := by decide +kernel
theorem dX10_pairs_20 : decode cX10_pairs 20 = .ok (.ireturn, 1) := by decide +kernel
theorem dX10_pair_0 : decode cX10_pair 0 = .ok (.iload_n 1, 1) := by decide +kernel
theorem dX10_pair_1 : decode cX10_pair 1 = .ok (.invokestatic 115, 3) := by decide +kernel
theorem dX10_pair_4 : decode cX10_pair 4 = .ok (.ifCond .eq 16, 3) := by decide +kernel
theorem dX10_pair_7 : decode cX10_pair 7 = .ok (.iload_n 2, 1) := by decide +kernel
theorem dX10_pair_8 : decode cX10_pair 8 = .ok (.ifCond .lt 12, 3) := by decide +kernel
theorem dX10_pair_11 : decode cX10_pair 11 = .ok (.iload_n 3, 1) := by decide +kernel
theorem dX10_pair_12 : decode cX10_pair 12 = .ok (.iconst 0, 1) := by decide +kernel
theorem dX10_pair_13 : decode cX10_pair 13 = .ok (.iconst 1, 1) := by decide +kernel
theorem dX10_pair_14 : decode cX10_pair 14 = .ok (.invokestatic 64, 3) := by decide +kernel
theorem dX10_pair_17 : decode cX10_pair 17 = .ok (.ifCond .ne 5, 3) := by decide +kernel
theorem dX10_pair_20 : decode cX10_pair 20 = .ok (.iconst (-1), 1) := by decide +kernel
theorem dX10_pair_21 : decode cX10_pair 21 = .ok (.ireturn, 1) := by decide +kernel
theorem dX10_pair_22 : decode cX10_pair 22 = .ok (.aload_n 0, 1) := by decide +kernel
theorem dX10_pair_23 : decode cX10_pair 23 = .ok (.getfield 10, 3) := by decide +kernel
theorem dX10_pair_26 : decode cX10_pair 26 = .ok (.iload_n 1, 1) := by decide +kernel
theorem dX10_pair_27 : decode cX10_pair 27 = .ok (.iload_n 2, 1) := by decide +kernel
theorem dX10_pair_28 : decode cX10_pair 28 = .ok (.iload_n 3, 1) := by decide +kernel
theorem dX10_pair_29 : decode cX10_pair 29 = .ok (.invokevirtual 121, 3) := by decide +kernel
theorem dX10_pair_32 : decode cX10_pair 32 = .ok (.ireturn, 1) := by decide +kernel
theorem dX10_line_0 : decode cX10_line 0 = .ok (.aload_n 0, 1) := by decide +kernel
theorem dX10_line_1 : decode cX10_line 1 = .ok (.getfield 10, 3) := by decide +kernel
theorem dX10_line_4 : decode cX10_line 4 = .ok (.iload_n 1, 1) := by decide +kernel
theorem dX10_line_5 : decode cX10_line 5 = .ok (.invokevirtual 81, 3) := by decide +kernel
theorem dX10_line_8 : decode cX10_line 8 = .ok (.astore_n 3, 1) := by decide +kernel
theorem dX10_line_9 : decode cX10_line 9 = .ok (.aload_n 3, 1) := by decide +kernel
theorem dX10_line_10 : decode cX10_line 10 = .ok (.ifnull 22, 3) := by decide +kernel
theorem dX10_line_13 : decode cX10_line 13 = .ok (.aload_n 3, 1) := by decide +kernel
theorem dX10_line_14 : decode cX10_line 14 = .ok (.aload_n 0, 1) := by decide +kernel
theorem dX10_line_15 : decode cX10_line 15 = .ok (.getfield 39, 3) := by decide +kernel
theorem dX10_line_18 : decode cX10_line 18 = .ok (.invokevirtual 125, 3) := by decide +kernel
theorem dX10_line_21 : decode cX10_line 21 = .ok (.ifCond .eq 11, 3) := by decide +kernel
theorem dX10_line_24 : decode cX10_line 24 = .ok (.aload_n 3, 1) := by decide +kernel
theorem dX10_line_25 : decode cX10_line 25 = .ok (.iload_n 2, 1) := by decide +kernel
theorem dX10_line_26 : decode cX10_line 26 = .ok (.invokevirtual 128, 3) := by decide +kernel
theorem dX10_line_29 : decode cX10_line 29 = .ok (.ifCond .ne 6, 3) := by decide +kernel
theorem dX10_line_32 : decode cX10_line 32 = .ok (.bipush (-2), 2) := by decide +kernel
theorem dX10_line_34 : decode cX10_line 34 = .ok (.ireturn, 1) := by decide +kernel
theorem dX10_line_35 : decode cX10_line 35 = .ok (.aload_n 0, 1) := by decide +kernel
theorem dX10_line_36 : decode cX10_line 36 = .ok (.getfield 19, 3) := by decide +kernel
theorem dX10_line_39 : decode cX10_line 39 = .ok (.aload_n 3, 1) := by decide +kernel
theorem dX10_line_40 : decode cX10_line 40 = .ok (.iload_n 2, 1) := by decide +kernel
theorem dX10_line_41 : decode cX10_line 41 = .ok (.i2l, 1) := by decide +kernel
theorem dX10_line_42 : decode cX10_line 42 = .ok (.aload_n 0, 1) := by decide +kernel
theorem dX10_line_43 : decode cX10_line 43 = .ok (.getfield 39, 3) := by decide +kernel
theorem dX10_line_46 : decode cX10_line 46 = .ok (.invokevirtual 131, 3) := by decide +kernel
theorem dX10_line_49 : decode cX10_line 49 = .ok (.iconst (-1), 1) := by decide +kernel
theorem dX10_line_50 : decode cX10_line 50 = .ok (.if_icmp .eq 5, 3) := by decide +kernel
theorem dX10_line_53 : decode cX10_line 53 = .ok (.iconst (-1), 1) := by decide +kernel
theorem dX10_line_54 : decode cX10_line 54 = .ok (.ireturn, 1) := by decide +kernel
theorem dX10_line_55 : decode cX10_line 55 = .ok (.aload_n 0, 1) := by decide +kernel
theorem dX10_line_56 : decode cX10_line 56 = .ok (.getfield 19, 3) := by decide +kernel
theorem dX10_line_59 : decode cX10_line 59 = .ok (.aload_n 3, 1) := by decide +kernel
theorem dX10_line_60 : decode cX10_line 60 = .ok (.iload_n 2, 1) := by decide +kernel
theorem dX10_line_61 : decode cX10_line 61 = .ok (.aload_n 0, 1) := by decide +kernel
theorem dX10_line_62 : decode cX10_line 62 = .ok (.getfield 39, 3) := by decide +kernel
theorem dX10_line_65 : decode cX10_line 65 = .ok (.invokevirtual 135, 3) := by decide +kernel
theorem dX10_line_68 : decode cX10_line 68 = .ok (.ireturn, 1) := by decide +kernel
theorem dX10_drop_0 : decode cX10_drop 0 = .ok (.aload_n 0, 1) := by decide +kernel
theorem dX10_drop_1 : decode cX10_drop 1 = .ok (.getfield 19, 3) := by decide +kernel
theorem dX10_drop_4 : decode cX10_drop 4 = .ok (.iload_n 1, 1) := by decide +kernel
theorem dX10_drop_5 : decode cX10_drop 5 = .ok (.invokevirtual 138, 3) := by decide +kernel
theorem dX10_drop_8 : decode cX10_drop 8 = .ok (.astore_n 2, 1) := by decide +kernel
theorem dX10_drop_9 : decode cX10_drop 9 = .ok (.aload_n 2, 1) := by decide +kernel
theorem dX10_drop_10 : decode cX10_drop 10 = .ok (.ifnull 11, 3) := by decide +kernel
theorem dX10_drop_13 : decode cX10_drop 13 = .ok (.aload_n 2, 1) := by decide +kernel
theorem dX10_drop_14 : decode cX10_drop 14 = .ok (.getfield 142, 3) := by decide +kernel
theorem dX10_drop_17 : decode cX10_drop 17 = .ok (.iconst (-1), 1) := by decide +kernel
theorem dX10_drop_18 : decode cX10_drop 18 = .ok (.if_icmp .eq 6, 3) := by decide +kernel
theorem dX10_drop_21 : decode cX10_drop 21 = .ok (.bipush (-2), 2) := by decide +kernel
theorem dX10_drop_23 : decode cX10_drop 23 = .ok (.ireturn, 1) := by decide +kernel
theorem dX10_drop_24 : decode cX10_drop 24 = .ok (.aload_n 2, 1) := by decide +kernel
theorem dX10_drop_25 : decode cX10_drop 25 = .ok (.aload_n 0, 1) := by decide +kernel
theorem dX10_drop_26 : decode cX10_drop 26 = .ok (.getfield 39, 3) := by decide +kernel
theorem dX10_drop_29 : decode cX10_drop 29 = .ok (.putfield 142, 3) := by decide +kernel
theorem dX10_drop_32 : decode cX10_drop 32 = .ok (.iconst 1, 1) := by decide +kernel
theorem dX10_drop_33 : decode cX10_drop 33 = .ok (.ireturn, 1) := by decide +kernel
theorem dX10_port_0 : decode cX10_port 0 = .ok (.aload_n 0, 1) := by decide +kernel
theorem dX10_port_1 : decode cX10_port 1 = .ok (.getfield 19, 3) := by decide +kernel
theorem dX10_port_4 : decode cX10_port 4 = .ok (.iload_n 1, 1) := by decide +kernel
theorem dX10_port_5 : decode cX10_port 5 = .ok (.invokevirtual 138, 3) := by decide +kernel
theorem dX10_port_8 : decode cX10_port 8 = .ok (.astore_n 3, 1) := by decide +kernel
theorem dX10_port_9 : decode cX10_port 9 = .ok (.aload_n 3, 1) := by decide +kernel
theorem dX10_port_10 : decode cX10_port 10 = .ok (.ifnull 21, 3) := by decide +kernel
theorem dX10_port_13 : decode cX10_port 13 = .ok (.aload_n 3, 1) := by decide +kernel
theorem dX10_port_14 : decode cX10_port 14 = .ok (.getfield 142, 3) := by decide +kernel
theorem dX10_port_17 : decode cX10_port 17 = .ok (.iconst (-1), 1) := by decide +kernel
theorem dX10_port_18 : decode cX10_port 18 = .ok (.if_icmp .ne 13, 3) := by decide +kernel
theorem dX10_port_21 : decode cX10_port 21 = .ok (.iload_n 2, 1) := by decide +kernel
theorem dX10_port_22 : decode cX10_port 22 = .ok (.iconst 0, 1) := by decide +kernel
theorem dX10_port_23 : decode cX10_port 23 = .ok (.bipush 99, 2) := by decide +kernel
theorem dX10_port_25 : decode cX10_port 25 = .ok (.invokestatic 64, 3) := by decide +kernel
theorem dX10_port_28 : decode cX10_port 28 = .ok (.ifCond .ne 6, 3) := by decide +kernel
theorem dX10_port_31 : decode cX10_port 31 = .ok (.bipush (-2), 2) := by decide +kernel
theorem dX10_port_33 : decode cX10_port 33 = .ok (.ireturn, 1) := by decide +kernel
theorem dX10_port_34 : decode cX10_port 34 = .ok (.aload_n 0, 1) := by decide +kernel
theorem dX10_port_35 : decode cX10_port 35 = .ok (.getfield 19, 3) := by decide +kernel
theorem dX10_port_38 : decode cX10_port 38 = .ok (.aload_n 3, 1) := by decide +kernel
theorem dX10_port_39 : decode cX10_port 39 = .ok (.iload_n 2, 1) := by decide +kernel
theorem dX10_port_40 : decode cX10_port 40 = .ok (.aload_n 0, 1) := by decide +kernel
theorem dX10_port_41 : decode cX10_port 41 = .ok (.getfield 39, 3) := by decide +kernel
theorem dX10_port_44 : decode cX10_port 44 = .ok (.invokevirtual 145, 3) := by decide +kernel
theorem dX10_port_47 : decode cX10_port 47 = .ok (.ireturn, 1) := by decide +kernel
theorem dX10_numberOf_0 : decode cX10_numberOf 0 = .ok (.aload_n 0, 1) := by decide +kernel
theorem dX10_numberOf_1 : decode cX10_numberOf 1 = .ok (.getfield 19, 3) := by decide +kernel
theorem dX10_numberOf_4 : decode cX10_numberOf 4 = .ok (.iload_n 1, 1) := by decide +kernel
theorem dX10_numberOf_5 : decode cX10_numberOf 5 = .ok (.invokevirtual 138, 3) := by decide +kernel
theorem dX10_numberOf_8 : decode cX10_numberOf 8 = .ok (.astore_n 3, 1) := by decide +kernel
theorem dX10_numberOf_9 : decode cX10_numberOf 9 = .ok (.aload_n 3, 1) := by decide +kernel
theorem dX10_numberOf_10 : decode cX10_numberOf 10 = .ok (.ifnull 10, 3) := by decide +kernel
theorem dX10_numberOf_13 : decode cX10_numberOf 13 = .ok (.iload_n 2, 1) := by decide +kernel
theorem dX10_numberOf_14 : decode cX10_numberOf 14 = .ok (.invokestatic 115, 3) := by decide +kernel
theorem dX10_numberOf_17 : decode cX10_numberOf 17 = .ok (.ifCond .ne 7, 3) := by decide +kernel
theorem dX10_numberOf_20 : decode cX10_numberOf 20 = .ok (.ldc2_w 149, 3) := by decide +kernel
theorem dX10_numberOf_23 : decode cX10_numberOf 23 = .ok (.lreturn, 1) := by decide +kernel
theorem dX10_numberOf_24 : decode cX10_numberOf 24 = .ok (.aload_n 3, 1) := by decide +kernel
theorem dX10_numberOf_25 : decode cX10_numberOf 25 = .ok (.iload_n 2, 1) := by decide +kernel
theorem dX10_numberOf_26 : decode cX10_numberOf 26 = .ok (.invokevirtual 151, 3) := by decide +kernel
theorem dX10_numberOf_29 : decode cX10_numberOf 29 = .ok (.astore 4, 2) := by decide +kernel
theorem dX10_numberOf_31 : decode cX10_numberOf 31 = .ok (.aload 4, 2) := by decide +kernel
theorem dX10_numberOf_33 : decode cX10_numberOf 33 = .ok (.ifnonnull 9, 3) := by decide +kernel
theorem dX10_numberOf_36 : decode cX10_numberOf 36 = .ok (.ldc2_w 149, 3) := by decide +kernel
theorem dX10_numberOf_39 : decode cX10_numberOf 39 = .ok (.goto 12, 3) := by decide +kernel
theorem dX10_numberOf_42 : decode cX10_numberOf 42 = .ok (.aload 4, 2) := by decide +kernel
theorem dX10_numberOf_44 : decode cX10_numberOf 44 = .ok (.aload_n 3, 1) := by decide +kernel
theorem dX10_numberOf_45 : decode cX10_numberOf 45 = .ok (.getfield 154, 3) := by decide +kernel
theorem dX10_numberOf_48 : decode cX10_numberOf 48 = .ok (.invokevirtual 157, 3) := by decide +kernel
theorem dX10_numberOf_51 : decode cX10_numberOf 51 = .ok (.lreturn, 1) := by decide +kernel
theorem dX10_lineAt_0 : decode cX10_lineAt 0 = .ok (.aload_n 0, 1) := by decide +kernel
theorem dX10_lineAt_1 : decode cX10_lineAt 1 = .ok (.getfield 19, 3) := by decide +kernel
theorem dX10_lineAt_4 : decode cX10_lineAt 4 = .ok (.iload_n 1, 1) := by decide +kernel
theorem dX10_lineAt_5 : decode cX10_lineAt 5 = .ok (.invokevirtual 138, 3) := by decide +kernel
theorem dX10_lineAt_8 : decode cX10_lineAt 8 = .ok (.astore 4, 2) := by decide +kernel
theorem dX10_lineAt_10 : decode cX10_lineAt 10 = .ok (.aload 4, 2) := by decide +kernel
theorem dX10_lineAt_12 : decode cX10_lineAt 12 = .ok (.ifnull 10, 3) := by decide +kernel
theorem dX10_lineAt_15 : decode cX10_lineAt 15 = .ok (.iload_n 2, 1) := by decide +kernel
theorem dX10_lineAt_16 : decode cX10_lineAt 16 = .ok (.invokestatic 115, 3) := by decide +kernel
theorem dX10_lineAt_19 : decode cX10_lineAt 19 = .ok (.ifCond .ne 5, 3) := by decide +kernel
theorem dX10_lineAt_22 : decode cX10_lineAt 22 = .ok (.iconst (-1), 1) := by decide +kernel
theorem dX10_lineAt_23 : decode cX10_lineAt 23 = .ok (.ireturn, 1) := by decide +kernel
theorem dX10_lineAt_24 : decode cX10_lineAt 24 = .ok (.aload 4, 2) := by decide +kernel
theorem dX10_lineAt_26 : decode cX10_lineAt 26 = .ok (.iload_n 2, 1) := by decide +kernel
theorem dX10_lineAt_27 : decode cX10_lineAt 27 = .ok (.invokevirtual 151, 3) := by decide +kernel
theorem dX10_lineAt_30 : decode cX10_lineAt 30 = .ok (.astore 5, 2) := by decide +kernel
theorem dX10_lineAt_32 : decode cX10_lineAt 32 = .ok (.aload 5, 2) := by decide +kernel
theorem dX10_lineAt_34 : decode cX10_lineAt 34 = .ok (.ifnonnull 5, 3) := by decide +kernel
theorem dX10_lineAt_37 : decode cX10_lineAt 37 = .ok (.iconst (-1), 1) := by decide +kernel
theorem dX10_lineAt_38 : decode cX10_lineAt 38 = .ok (.ireturn, 1) := by decide +kernel
theorem dX10_lineAt_39 : decode cX10_lineAt 39 = .ok (.iload_n 3, 1) := by decide +kernel
theorem dX10_lineAt_40 : decode cX10_lineAt 40 = .ok (.tableswitch 47 0 2 #[28, 34, 41], 28) := by decide +kernel
theorem dX10_lineAt_68 : decode cX10_lineAt 68 = .ok (.aload 5, 2) := by decide +kernel
theorem dX10_lineAt_70 : decode cX10_lineAt 70 = .ok (.getfield 161, 3) := by decide +kernel
theorem dX10_lineAt_73 : decode cX10_lineAt 73 = .ok (.ireturn, 1) := by decide +kernel
theorem dX10_lineAt_74 : decode cX10_lineAt 74 = .ok (.aload 4, 2) := by decide +kernel
theorem dX10_lineAt_76 : decode cX10_lineAt 76 = .ok (.iload_n 2, 1) := by decide +kernel
theorem dX10_lineAt_77 : decode cX10_lineAt 77 = .ok (.invokevirtual 164, 3) := by decide +kernel
theorem dX10_lineAt_80 : decode cX10_lineAt 80 = .ok (.ireturn, 1) := by decide +kernel
theorem dX10_lineAt_81 : decode cX10_lineAt 81 = .ok (.aload 5, 2) := by decide +kernel
theorem dX10_lineAt_83 : decode cX10_lineAt 83 = .ok (.getfield 108, 3) := by decide +kernel
theorem dX10_lineAt_86 : decode cX10_lineAt 86 = .ok (.ireturn, 1) := by decide +kernel
theorem dX10_lineAt_87 : decode cX10_lineAt 87 = .ok (.iconst (-1), 1) := by decide +kernel
theorem dX10_lineAt_88 : decode cX10_lineAt 88 = .ok (.ireturn, 1) := by decide +kernel
theorem dX10_call_0 : decode cX10_call 0 = .ok (.aload_n 0, 1) := by decide +kernel
theorem dX10_call_1 : decode cX10_call 1 = .ok (.iload_n 1, 1) := by decide +kernel
theorem dX10_call_2 : decode cX10_call 2 = .ok (.invokevirtual 167, 3) := by decide +kernel
theorem dX10_call_5 : decode cX10_call 5 = .ok (.astore_n 2, 1) := by decide +kernel
theorem dX10_call_6 : decode cX10_call 6 = .ok (.aload_n 2, 1) := by decide +kernel
theorem dX10_call_7 : decode cX10_call 7 = .ok (.ifnonnull 6, 3) := by decide +kernel
theorem dX10_call_10 : decode cX10_call 10 = .ok (.bipush (-2), 2) := by decide +kernel
theorem dX10_call_12 : decode cX10_call 12 = .ok (.ireturn, 1) := by decide +kernel
theorem dX10_call_13 : decode cX10_call 13 = .ok (.aload_n 2, 1) := by decide +kernel
theorem dX10_call_14 : decode cX10_call 14 = .ok (.aload_n 0, 1) := by decide +kernel
theorem dX10_call_15 : decode cX10_call 15 = .ok (.getfield 39, 3) := by decide +kernel
theorem dX10_call_18 : decode cX10_call 18 = .ok (.invokevirtual 171, 3) := by decide +kernel
theorem dX10_call_21 : decode cX10_call 21 = .ok (.aload_n 0, 1) := by decide +kernel
theorem dX10_call_22 : decode cX10_call 22 = .ok (.getfield 39, 3) := by decide +kernel
theorem dX10_call_25 : decode cX10_call 25 = .ok (.ireturn, 1) := by decide +kernel
theorem dX10_figure_0 : decode cX10_figure 0 = .ok (.aload_n 0, 1) := by decide +kernel
theorem dX10_figure_1 : decode cX10_figure 1 = .ok (.iload_n 1, 1) := by decide +kernel
theorem dX10_figure_2 : decode cX10_figure 2 = .ok (.invokevirtual 167, 3) := by decide +kernel
theorem dX10_figure_5 : decode cX10_figure 5 = .ok (.astore_n 3, 1) := by decide +kernel
theorem dX10_figure_6 : decode cX10_figure 6 = .ok (.aload_n 3, 1) := by decide +kernel
theorem dX10_figure_7 : decode cX10_figure 7 = .ok (.ifnull 13, 3) := by decide +kernel
theorem dX10_figure_10 : decode cX10_figure 10 = .ok (.iload_n 2, 1) := by decide +kernel
theorem dX10_figure_11 : decode cX10_figure 11 = .ok (.iconst 0, 1) := by decide +kernel
theorem dX10_figure_12 : decode cX10_figure 12 = .ok (.bipush 9, 2) := by decide +kernel
theorem dX10_figure_14 : decode cX10_figure 14 = .ok (.invokestatic 64, 3) := by decide +kernel
theorem dX10_figure_17 : decode cX10_figure 17 = .ok (.ifCond .ne 6, 3) := by decide +kernel
theorem dX10_figure_20 : decode cX10_figure 20 = .ok (.bipush (-2), 2) := by decide +kernel
theorem dX10_figure_22 : decode cX10_figure 22 = .ok (.ireturn, 1) := by decide +kernel
theorem dX10_figure_23 : decode cX10_figure 23 = .ok (.aload_n 3, 1) := by decide +kernel
theorem dX10_figure_24 : decode cX10_figure 24 = .ok (.invokevirtual 175, 3) := by decide +kernel
theorem dX10_figure_27 : decode cX10_figure 27 = .ok (.ifCond .ne 5, 3) := by decide +kernel
theorem dX10_figure_30 : decode cX10_figure 30 = .ok (.iconst (-1), 1) := by decide +kernel
theorem dX10_figure_31 : decode cX10_figure 31 = .ok (.ireturn, 1) := by decide +kernel
theorem dX10_figure_32 : decode cX10_figure 32 = .ok (.aload_n 3, 1) := by decide +kernel
theorem dX10_figure_33 : decode cX10_figure 33 = .ok (.iload_n 2, 1) := by decide +kernel
theorem dX10_figure_34 : decode cX10_figure 34 = .ok (.invokevirtual 179, 3) := by decide +kernel
theorem dX10_figure_37 : decode cX10_figure 37 = .ok (.aload_n 3, 1) := by decide +kernel
theorem dX10_figure_38 : decode cX10_figure 38 = .ok (.aload_n 0, 1) := by decide +kernel
theorem dX10_figure_39 : decode cX10_figure 39 = .ok (.getfield 10, 3) := by decide +kernel
theorem dX10_figure_42 : decode cX10_figure 42 = .ok (.aload_n 3, 1) := by decide +kernel
theorem dX10_figure_43 : decode cX10_figure 43 = .ok (.getfield 182, 3) := by decide +kernel
theorem dX10_figure_46 : decode cX10_figure 46 = .ok (.aload_n 3, 1) := by decide +kernel
theorem dX10_figure_47 : decode cX10_figure 47 = .ok (.getfield 185, 3) := by decide +kernel
theorem dX10_figure_50 : decode cX10_figure 50 = .ok (.aload_n 3, 1) := by decide +kernel
theorem dX10_figure_51 : decode cX10_figure 51 = .ok (.getfield 186, 3) := by decide +kernel
theorem dX10_figure_54 : decode cX10_figure 54 = .ok (.invokevirtual 189, 3) := by decide +kernel
theorem dX10_figure_57 : decode cX10_figure 57 = .ok (.invokevirtual 193, 3) := by decide +kernel
theorem dX10_figure_60 : decode cX10_figure 60 = .ok (.putfield 198, 3) := by decide +kernel
theorem dX10_figure_63 : decode cX10_figure 63 = .ok (.aload_n 3, 1) := by decide +kernel
theorem dX10_figure_64 : decode cX10_figure 64 = .ok (.aload_n 3, 1) := by decide +kernel
theorem dX10_figure_65 : decode cX10_figure 65 = .ok (.getfield 198, 3) := by decide +kernel
theorem dX10_figure_68 : decode cX10_figure 68 = .ok (.iconst 1, 1) := by decide +kernel
theorem dX10_figure_69 : decode cX10_figure 69 = .ok (.if_icmp .eq 11, 3) := by decide +kernel
theorem dX10_figure_72 : decode cX10_figure 72 = .ok (.aload_n 3, 1) := by decide +kernel
theorem dX10_figure_73 : decode cX10_figure 73 = .ok (.getfield 198, 3) := by decide +kernel
theorem dX10_figure_76 : decode cX10_figure 76 = .ok (.iconst 3, 1) := by decide +kernel
theorem dX10_figure_77 : decode cX10_figure 77 = .ok (.if_icmp .ne 7, 3) := by decide +kernel
theorem dX10_figure_80 : decode cX10_figure 80 = .ok (.iconst 1, 1) := by decide +kernel
theorem dX10_figure_81 : decode cX10_figure 81 = .ok (.goto 4, 3) := by decide +kernel
theorem dX10_figure_84 : decode cX10_figure 84 = .ok (.iconst 0, 1) := by decide +kernel
theorem dX10_figure_85 : decode cX10_figure 85 = .ok (.putfield 200, 3) := by decide +kernel
theorem dX10_figure_88 : decode cX10_figure 88 = .ok (.aload_n 3, 1) := by decide +kernel
theorem dX10_figure_89 : decode cX10_figure 89 = .ok (.getfield 198, 3) := by decide +kernel
theorem dX10_figure_92 : decode cX10_figure 92 = .ok (.ireturn, 1) := by decide +kernel
theorem dX10_waits_0 : decode cX10_waits 0 = .ok (.aload_n 0, 1) := by decide +kernel
theorem dX10_waits_1 : decode cX10_waits 1 = .ok (.iload_n 1, 1) := by decide +kernel
theorem dX10_waits_2 : decode cX10_waits 2 = .ok (.invokevirtual 167, 3) := by decide +kernel
theorem dX10_waits_5 : decode cX10_waits 5 = .ok (.astore_n 2, 1) := by decide +kernel
theorem dX10_waits_6 : decode cX10_waits 6 = .ok (.aload_n 2, 1) := by decide +kernel
theorem dX10_waits_7 : decode cX10_waits 7 = .ok (.ifnonnull 6, 3) := by decide +kernel
theorem dX10_waits_10 : decode cX10_waits 10 = .ok (.bipush (-2), 2) := by decide +kernel
theorem dX10_waits_12 : decode cX10_waits 12 = .ok (.ireturn, 1) := by decide +kernel
theorem dX10_waits_13 : decode cX10_waits 13 = .ok (.aload_n 2, 1) := by decide +kernel
theorem dX10_waits_14 : decode cX10_waits 14 = .ok (.invokevirtual 175, 3) := by decide +kernel
theorem dX10_waits_17 : decode cX10_waits 17 = .ok (.ifCond .ne 5, 3) := by decide +kernel
theorem dX10_waits_20 : decode cX10_waits 20 = .ok (.iconst (-1), 1) := by decide +kernel
theorem dX10_waits_21 : decode cX10_waits 21 = .ok (.ireturn, 1) := by decide +kernel
theorem dX10_waits_22 : decode cX10_waits 22 = .ok (.aload_n 2, 1) := by decide +kernel
theorem dX10_waits_23 : decode cX10_waits 23 = .ok (.aload_n 2, 1) := by decide +kernel
theorem dX10_waits_24 : decode cX10_waits 24 = .ok (.getfield 198, 3) := by decide +kernel
theorem dX10_waits_27 : decode cX10_waits 27 = .ok (.iconst 2, 1) := by decide +kernel
theorem dX10_waits_28 : decode cX10_waits 28 = .ok (.if_icmp .ne 7, 3) := by decide +kernel
theorem dX10_waits_31 : decode cX10_waits 31 = .ok (.iconst 1, 1) := by decide +kernel
theorem dX10_waits_32 : decode cX10_waits 32 = .ok (.goto 4, 3) := by decide +kernel
theorem dX10_waits_35 : decode cX10_waits 35 = .ok (.iconst 0, 1) := by decide +kernel
theorem dX10_waits_36 : decode cX10_waits 36 = .ok (.putfield 200, 3) := by decide +kernel
theorem dX10_waits_39 : decode cX10_waits 39 = .ok (.aload_n 2, 1) := by decide +kernel
theorem dX10_waits_40 : decode cX10_waits 40 = .ok (.getfield 200, 3) := by decide +kernel
theorem dX10_waits_43 : decode cX10_waits 43 = .ok (.ifCond .eq 7, 3) := by decide +kernel
theorem dX10_waits_46 : decode cX10_waits 46 = .ok (.iconst 1, 1) := by decide +kernel
theorem dX10_waits_47 : decode cX10_waits 47 = .ok (.goto 4, 3) := by decide +kernel
theorem dX10_waits_50 : decode cX10_waits 50 = .ok (.iconst 0, 1) := by decide +kernel
theorem dX10_waits_51 : decode cX10_waits 51 = .ok (.ireturn, 1) := by decide +kernel
theorem dX10_told_0 : decode cX10_told 0 = .ok (.aload_n 0, 1) := by decide +kernel
theorem dX10_told_1 : decode cX10_told 1 = .ok (.iload_n 1, 1) := by decide +kernel
theorem dX10_told_2 : decode cX10_told 2 = .ok (.invokevirtual 167, 3) := by decide +kernel
theorem dX10_told_5 : decode cX10_told 5 = .ok (.astore_n 3, 1) := by decide +kernel
theorem dX10_told_6 : decode cX10_told 6 = .ok (.aload_n 3, 1) := by decide +kernel
theorem dX10_told_7 : decode cX10_told 7 = .ok (.ifnull 10, 3) := by decide +kernel
theorem dX10_told_10 : decode cX10_told 10 = .ok (.aload_n 3, 1) := by decide +kernel
theorem dX10_told_11 : decode cX10_told 11 = .ok (.getfield 204, 3) := by decide +kernel
theorem dX10_told_14 : decode cX10_told 14 = .ok (.ifCond .ne 5, 3) := by decide +kernel
theorem dX10_told_17 : decode cX10_told 17 = .ok (.iconst (-1), 1) := by decide +kernel
theorem dX10_told_18 : decode cX10_told 18 = .ok (.ireturn, 1) := by decide +kernel
theorem dX10_told_19 : decode cX10_told 19 = .ok (.iload_n 2, 1) := by decide +kernel
theorem dX10_told_20 : decode cX10_told 20 = .ok (.tableswitch 102 0 10 #[60, 65, 70, 83, 88, 88, 88, 88, 95, 95, 95], 60) := by decide +kernel
theorem dX10_told_80 : decode cX10_told 80 = .ok (.aload_n 3, 1) := by decide +kernel
theorem dX10_told_81 : decode cX10_told 81 = .ok (.getfield 185, 3) := by decide +kernel
theorem dX10_told_84 : decode cX10_told 84 = .ok (.ireturn, 1) := by decide +kernel
theorem dX10_told_85 : decode cX10_told 85 = .ok (.aload_n 3, 1) := by decide +kernel
theorem dX10_told_86 : decode cX10_told 86 = .ok (.getfield 198, 3) := by decide +kernel
theorem dX10_told_89 : decode cX10_told 89 = .ok (.ireturn, 1) := by decide +kernel
theorem dX10_told_90 : decode cX10_told 90 = .ok (.aload_n 3, 1) := by decide +kernel
theorem dX10_told_91 : decode cX10_told 91 = .ok (.getfield 200, 3) := by decide +kernel
theorem dX10_told_94 : decode cX10_told 94 = .ok (.ifCond .eq 7, 3) := by decide +kernel
theorem dX10_told_97 : decode cX10_told 97 = .ok (.iconst 1, 1) := by decide +kernel
theorem dX10_told_98 : decode cX10_told 98 = .ok (.goto 4, 3) := by decide +kernel
theorem dX10_told_101 : decode cX10_told 101 = .ok (.iconst 0, 1) := by decide +kernel
theorem dX10_told_102 : decode cX10_told 102 = .ok (.ireturn, 1) := by decide +kernel
theorem dX10_told_103 : decode cX10_told 103 = .ok (.aload_n 3, 1) := by decide +kernel
theorem dX10_told_104 : decode cX10_told 104 = .ok (.getfield 186, 3) := by decide +kernel
theorem dX10_told_107 : decode cX10_told 107 = .ok (.ireturn, 1) := by decide +kernel
theorem dX10_told_108 : decode cX10_told 108 = .ok (.aload_n 0, 1) := by decide +kernel
theorem dX10_told_109 : decode cX10_told 109 = .ok (.aload_n 3, 1) := by decide +kernel
theorem dX10_told_110 : decode cX10_told 110 = .ok (.iload_n 2, 1) := by decide +kernel
theorem dX10_told_111 : decode cX10_told 111 = .ok (.invokevirtual 207, 3) := by decide +kernel
theorem dX10_told_114 : decode cX10_told 114 = .ok (.ireturn, 1) := by decide +kernel
theorem dX10_told_115 : decode cX10_told 115 = .ok (.aload_n 0, 1) := by decide +kernel
theorem dX10_told_116 : decode cX10_told 116 = .ok (.aload_n 3, 1) := by decide +kernel
theorem dX10_told_117 : decode cX10_told 117 = .ok (.iload_n 2, 1) := by decide +kernel
theorem dX10_told_118 : decode cX10_told 118 = .ok (.invokevirtual 211, 3) := by decide +kernel
theorem dX10_told_121 : decode cX10_told 121 = .ok (.ireturn, 1) := by decide +kernel
theorem dX10_told_122 : decode cX10_told 122 = .ok (.iconst (-1), 1) := by decide +kernel
theorem dX10_told_123 : decode cX10_told 123 = .ok (.ireturn, 1) := by decide +kernel
theorem dX10_leads_0 : decode cX10_leads 0 = .ok (.lload_n 1, 1) := by decide +kernel
theorem dX10_leads_1 : decode cX10_leads 1 = .ok (.invokestatic 60, 3) := by decide +kernel
theorem dX10_leads_4 : decode cX10_leads 4 = .ok (.istore 4, 2) := by decide +kernel
theorem dX10_leads_6 : decode cX10_leads 6 = .ok (.iload 4, 2) := by decide +kernel
theorem dX10_leads_8 : decode cX10_leads 8 = .ok (.iconst 1, 1) := by decide +kernel
theorem dX10_leads_9 : decode cX10_leads 9 = .ok (.bipush 15, 2) := by decide +kernel
theorem dX10_leads_11 : decode cX10_leads 11 = .ok (.invokestatic 64, 3) := by decide +kernel
theorem dX10_leads_14 : decode cX10_leads 14 = .ok (.ifCond .eq 10, 3) := by decide +kernel
theorem dX10_leads_17 : decode cX10_leads 17 = .ok (.iload_n 3, 1) := by decide +kernel
theorem dX10_leads_18 : decode cX10_leads 18 = .ok (.invokestatic 115, 3) := by decide +kernel
theorem dX10_leads_21 : decode cX10_leads 21 = .ok (.ifCond .ne 6, 3) := by decide +kernel
theorem dX10_leads_24 : decode cX10_leads 24 = .ok (.bipush (-2), 2) := by decide +kernel
theorem dX10_leads_26 : decode cX10_leads 26 = .ok (.ireturn, 1) := by decide +kernel
theorem dX10_leads_27 : decode cX10_leads 27 = .ok (.aload_n 0, 1) := by decide +kernel
theorem dX10_leads_28 : decode cX10_leads 28 = .ok (.getfield 10, 3) := by decide +kernel
theorem dX10_leads_31 : decode cX10_leads 31 = .ok (.lload_n 1, 1) := by decide +kernel
theorem dX10_leads_32 : decode cX10_leads 32 = .ok (.iload 4, 2) := by decide +kernel
theorem dX10_leads_34 : decode cX10_leads 34 = .ok (.iload_n 3, 1) := by decide +kernel
theorem dX10_leads_35 : decode cX10_leads 35 = .ok (.invokevirtual 214, 3) := by decide +kernel
theorem dX10_leads_38 : decode cX10_leads 38 = .ok (.astore 5, 2) := by decide +kernel
theorem dX10_leads_40 : decode cX10_leads 40 = .ok (.aload 5, 2) := by decide +kernel
theorem dX10_leads_42 : decode cX10_leads 42 = .ok (.ifnonnull 7, 3) := by decide +kernel
theorem dX10_leads_45 : decode cX10_leads 45 = .ok (.iconst (-1), 1) := by decide +kernel
theorem dX10_leads_46 : decode cX10_leads 46 = .ok (.goto 16, 3) := by decide +kernel
theorem dX10_leads_49 : decode cX10_leads 49 = .ok (.aload_n 0, 1) := by decide +kernel
theorem dX10_leads_50 : decode cX10_leads 50 = .ok (.getfield 19, 3) := by decide +kernel
theorem dX10_leads_53 : decode cX10_leads 53 = .ok (.aload 5, 2) := by decide +kernel
theorem dX10_leads_55 : decode cX10_leads 55 = .ok (.lload_n 1, 1) := by decide +kernel
theorem dX10_leads_56 : decode cX10_leads 56 = .ok (.iload 4, 2) := by decide +kernel
theorem dX10_leads_58 : decode cX10_leads 58 = .ok (.iload_n 3, 1) := by decide +kernel
theorem dX10_leads_59 : decode cX10_leads 59 = .ok (.invokevirtual 218, 3) := by decide +kernel
theorem dX10_leads_62 : decode cX10_leads 62 = .ok (.ireturn, 1) := by decide +kernel
theorem dX10_demand_0 : decode cX10_demand 0 = .ok (.aload_n 0, 1) := by decide +kernel
theorem dX10_demand_1 : decode cX10_demand 1 = .ok (.getfield 35, 3) := by decide +kernel
theorem dX10_demand_4 : decode cX10_demand 4 = .ok (.iload_n 1, 1) := by decide +kernel
theorem dX10_demand_5 : decode cX10_demand 5 = .ok (.invokevirtual 222, 3) := by decide +kernel
theorem dX10_demand_8 : decode cX10_demand 8 = .ok (.astore 4, 2) := by decide +kernel
theorem dX10_demand_10 : decode cX10_demand 10 = .ok (.aload 4, 2) := by decide +kernel
theorem dX10_demand_12 : decode cX10_demand 12 = .ok (.ifnull 23, 3) := by decide +kernel
theorem dX10_demand_15 : decode cX10_demand 15 = .ok (.iload_n 2, 1) := by decide +kernel
theorem dX10_demand_16 : decode cX10_demand 16 = .ok (.iconst 0, 1) := by decide +kernel
theorem dX10_demand_17 : decode cX10_demand 17 = .ok (.ldc 226, 2) := by decide +kernel
theorem dX10_demand_19 : decode cX10_demand 19 = .ok (.invokestatic 64, 3) := by decide +kernel
theorem dX10_demand_22 : decode cX10_demand 22 = .ok (.ifCond .eq 13, 3) := by decide +kernel
theorem dX10_demand_25 : decode cX10_demand 25 = .ok (.iload_n 3, 1) := by decide +kernel
theorem dX10_demand_26 : decode cX10_demand 26 = .ok (.iconst 0, 1) := by decide +kernel
theorem dX10_demand_27 : decode cX10_demand 27 = .ok (.ldc 227, 2) := by decide +kernel
theorem dX10_demand_29 : decode cX10_demand 29 = .ok (.invokestatic 64, 3) := by decide +kernel
theorem dX10_demand_32 : decode cX10_demand 32 = .ok (.ifCond .ne 6, 3) := by decide +kernel
theorem dX10_demand_35 : decode cX10_demand 35 = .ok (.bipush (-2), 2) := by decide +kernel
theorem dX10_demand_37 : decode cX10_demand 37 = .ok (.ireturn, 1) := by decide +kernel
theorem dX10_demand_38 : decode cX10_demand 38 = .ok (.aload 4, 2) := by decide +kernel
theorem dX10_demand_40 : decode cX10_demand 40 = .ok (.getfield 228, 3) := by decide +kernel
theorem dX10_demand_43 : decode cX10_demand 43 = .ok (.istore 5, 2) := by decide +kernel
theorem dX10_demand_45 : decode cX10_demand 45 = .ok (.aload 4, 2) := by decide +kernel
theorem dX10_demand_47 : decode cX10_demand 47 = .ok (.iload_n 2, 1) := by decide +kernel
theorem dX10_demand_48 : decode cX10_demand 48 = .ok (.putfield 228, 3) := by decide +kernel
theorem dX10_demand_51 : decode cX10_demand 51 = .ok (.aload 4, 2) := by decide +kernel
theorem dX10_demand_53 : decode cX10_demand 53 = .ok (.iload_n 3, 1) := by decide +kernel
theorem dX10_demand_54 : decode cX10_demand 54 = .ok (.putfield 233, 3) := by decide +kernel
theorem dX10_demand_57 : decode cX10_demand 57 = .ok (.iload 5, 2) := by decide +kernel
theorem dX10_demand_59 : decode cX10_demand 59 = .ok (.ireturn, 1) := by decide +kernel
theorem dX10_room_0 : decode cX10_room 0 = .ok (.iload_n 1, 1) := by decide +kernel
theorem dX10_room_1 : decode cX10_room 1 = .ok (.iconst 0, 1) := by decide +kernel
theorem dX10_room_2 : decode cX10_room 2 = .ok (.bipush 15, 2) := by decide +kernel
theorem dX10_room_4 : decode cX10_room 4 = .ok (.invokestatic 64, 3) := by decide +kernel
theorem dX10_room_7 : decode cX10_room 7 = .ok (.ifCond .eq 10, 3) := by decide +kernel
theorem dX10_room_10 : decode cX10_room 10 = .ok (.iload_n 2, 1) := by decide +kernel
theorem dX10_room_11 : decode cX10_room 11 = .ok (.invokestatic 115, 3) := by decide +kernel
theorem dX10_room_14 : decode cX10_room 14 = .ok (.ifCond .ne 7, 3) := by decide +kernel
theorem dX10_room_17 : decode cX10_room 17 = .ok (.ldc2_w 236, 3) := by decide +kernel
theorem dX10_room_20 : decode cX10_room 20 = .ok (.lreturn, 1) := by decide +kernel
theorem dX10_room_21 : decode cX10_room 21 = .ok (.aload_n 0, 1) := by decide +kernel
theorem dX10_room_22 : decode cX10_room 22 = .ok (.getfield 10, 3) := by decide +kernel
theorem dX10_room_25 : decode cX10_room 25 = .ok (.iload_n 1, 1) := by decide +kernel
theorem dX10_room_26 : decode cX10_room 26 = .ok (.iload_n 2, 1) := by decide +kernel
theorem dX10_room_27 : decode cX10_room 27 = .ok (.invokevirtual 238, 3) := by decide +kernel
theorem dX10_room_30 : decode cX10_room 30 = .ok (.lreturn, 1) := by decide +kernel
theorem dX10_shortage_0 : decode cX10_shortage 0 = .ok (.aload_n 0, 1) := by decide +kernel
theorem dX10_shortage_1 : decode cX10_shortage 1 = .ok (.getfield 35, 3) := by decide +kernel
theorem dX10_shortage_4 : decode cX10_shortage 4 = .ok (.iload_n 1, 1) := by decide +kernel
theorem dX10_shortage_5 : decode cX10_shortage 5 = .ok (.invokevirtual 222, 3) := by decide +kernel
theorem dX10_shortage_8 : decode cX10_shortage 8 = .ok (.astore_n 2, 1) := by decide +kernel
theorem dX10_shortage_9 : decode cX10_shortage 9 = .ok (.aload_n 2, 1) := by decide +kernel
theorem dX10_shortage_10 : decode cX10_shortage 10 = .ok (.ifnonnull 8, 3) := by decide +kernel
theorem dX10_shortage_13 : decode cX10_shortage 13 = .ok (.bipush (-2), 2) := by decide +kernel
theorem dX10_shortage_15 : decode cX10_shortage 15 = .ok (.goto 18, 3) := by decide +kernel
theorem dX10_shortage_18 : decode cX10_shortage 18 = .ok (.aload_n 0, 1) := by decide +kernel
theorem dX10_shortage_19 : decode cX10_shortage 19 = .ok (.getfield 35, 3) := by decide +kernel
theorem dX10_shortage_22 : decode cX10_shortage 22 = .ok (.aload_n 2, 1) := by decide +kernel
theorem dX10_shortage_23 : decode cX10_shortage 23 = .ok (.aload_n 0, 1) := by decide +kernel
theorem dX10_shortage_24 : decode cX10_shortage 24 = .ok (.getfield 39, 3) := by decide +kernel
theorem dX10_shortage_27 : decode cX10_shortage 27 = .ok (.bipush 7, 2) := by decide +kernel
theorem dX10_shortage_29 : decode cX10_shortage 29 = .ok (.idiv, 1) := by decide +kernel
theorem dX10_shortage_30 : decode cX10_shortage 30 = .ok (.invokevirtual 242, 3) := by decide +kernel
theorem dX10_shortage_33 : decode cX10_shortage 33 = .ok (.ireturn, 1) := by decide +kernel
theorem dX10_mightCome_0 : decode cX10_mightCome 0 = .ok (.iload_n 1, 1) := by decide +kernel
theorem dX10_mightCome_1 : decode cX10_mightCome 1 = .ok (.iload_n 2, 1) := by decide +kernel
theorem dX10_mightCome_2 : decode cX10_mightCome 2 = .ok (.iload_n 3, 1) := by decide +kernel
theorem dX10_mightCome_3 : decode cX10_mightCome 3 = .ok (.iload 4, 2) := by decide +kernel
theorem dX10_mightCome_5 : decode cX10_mightCome 5 = .ok (.invokestatic 47, 3) := by decide +kernel
theorem dX10_mightCome_8 : decode cX10_mightCome 8 = .ok (.ifCond .eq 23, 3) := by decide +kernel
theorem dX10_mightCome_11 : decode cX10_mightCome 11 = .ok (.aload_n 0, 1) := by decide +kernel
theorem dX10_mightCome_12 : decode cX10_mightCome 12 = .ok (.iload 5, 2) := by decide +kernel
theorem dX10_mightCome_14 : decode cX10_mightCome 14 = .ok (.invokevirtual 43, 3) := by decide +kernel
theorem dX10_mightCome_17 : decode cX10_mightCome 17 = .ok (.ifCond .eq 14, 3) := by decide +kernel
theorem dX10_mightCome_20 : decode cX10_mightCome 20 = .ok (.iload 6, 2) := by decide +kernel
theorem dX10_mightCome_22 : decode cX10_mightCome 22 = .ok (.iconst 0, 1) := by decide +kernel
theorem dX10_mightCome_23 : decode cX10_mightCome 23 = .ok (.ldc 227, 2) := by decide +kernel
theorem dX10_mightCome_25 : decode cX10_mightCome 25 = .ok (.invokestatic 64, 3) := by decide +kernel
theorem dX10_mightCome_28 : decode cX10_mightCome 28 = .ok (.ifCond .ne 6, 3) := by decide +kernel
theorem dX10_mightCome_31 : decode cX10_mightCome 31 = .ok (.bipush (-2), 2) := by decide +kernel
theorem dX10_mightCome_33 : decode cX10_mightCome 33 = .ok (.ireturn, 1) := by decide +kernel
theorem dX10_mightCome_34 : decode cX10_mightCome 34 = .ok (.aload_n 0, 1) := by decide +kernel
theorem dX10_mightCome_35 : decode cX10_mightCome 35 = .ok (.getfield 35, 3) := by decide +kernel
theorem dX10_mightCome_38 : decode cX10_mightCome 38 = .ok (.new 246, 3) := by decide +kernel
theorem dX10_mightCome_41 : decode cX10_mightCome 41 = .ok (.dup, 1) := by decide +kernel
theorem dX10_mightCome_42 : decode cX10_mightCome 42 = .ok (.new 51, 3) := by decide +kernel
theorem dX10_mightCome_45 : decode cX10_mightCome 45 = .ok (.dup, 1) := by decide +kernel
theorem dX10_mightCome_46 : decode cX10_mightCome 46 = .ok (.iconst 0, 1) := by decide +kernel
theorem dX10_mightCome_47 : decode cX10_mightCome 47 = .ok (.iload_n 1, 1) := by decide +kernel
theorem dX10_mightCome_48 : decode cX10_mightCome 48 = .ok (.iload_n 2, 1) := by decide +kernel
theorem dX10_mightCome_49 : decode cX10_mightCome 49 = .ok (.iload_n 3, 1) := by decide +kernel
theorem dX10_mightCome_50 : decode cX10_mightCome 50 = .ok (.iload 4, 2) := by decide +kernel
theorem dX10_mightCome_52 : decode cX10_mightCome 52 = .ok (.iload 4, 2) := by decide +kernel
theorem dX10_mightCome_54 : decode cX10_mightCome 54 = .ok (.iload 5, 2) := by decide +kernel
theorem dX10_mightCome_56 : decode cX10_mightCome 56 = .ok (.invokespecial 53, 3) := by decide +kernel
theorem dX10_mightCome_59 : decode cX10_mightCome 59 = .ok (.iload 6, 2) := by decide +kernel
theorem dX10_mightCome_61 : decode cX10_mightCome 61 = .ok (.invokespecial 248, 3) := by decide +kernel
theorem dX10_mightCome_64 : decode cX10_mightCome 64 = .ok (.invokevirtual 251, 3) := by decide +kernel
theorem dX10_mightCome_67 : decode cX10_mightCome 67 = .ok (.ireturn, 1) := by decide +kernel
theorem dX10_relief_0 : decode cX10_relief 0 = .ok (.aload_n 0, 1) := by decide +kernel
theorem dX10_relief_1 : decode cX10_relief 1 = .ok (.getfield 35, 3) := by decide +kernel
theorem dX10_relief_4 : decode cX10_relief 4 = .ok (.iload_n 1, 1) := by decide +kernel
theorem dX10_relief_5 : decode cX10_relief 5 = .ok (.invokevirtual 222, 3) := by decide +kernel
theorem dX10_relief_8 : decode cX10_relief 8 = .ok (.astore_n 3, 1) := by decide +kernel
theorem dX10_relief_9 : decode cX10_relief 9 = .ok (.aload_n 3, 1) := by decide +kernel
theorem dX10_relief_10 : decode cX10_relief 10 = .ok (.ifnull 14, 3) := by decide +kernel
theorem dX10_relief_13 : decode cX10_relief 13 = .ok (.iload_n 2, 1) := by decide +kernel
theorem dX10_relief_14 : decode cX10_relief 14 = .ok (.iconst 1, 1) := by decide +kernel
theorem dX10_relief_15 : decode cX10_relief 15 = .ok (.sipush 2000, 3) := by decide +kernel
theorem dX10_relief_18 : decode cX10_relief 18 = .ok (.invokestatic 64, 3) := by decide +kernel
theorem dX10_relief_21 : decode cX10_relief 21 = .ok (.ifCond .ne 6, 3) := by decide +kernel
theorem dX10_relief_24 : decode cX10_relief 24 = .ok (.bipush (-2), 2) := by decide +kernel
theorem dX10_relief_26 : decode cX10_relief 26 = .ok (.ireturn, 1) := by decide +kernel
theorem dX10_relief_27 : decode cX10_relief 27 = .ok (.aload_n 0, 1) := by decide +kernel
theorem dX10_relief_28 : decode cX10_relief 28 = .ok (.getfield 35, 3) := by decide +kernel
theorem dX10_relief_31 : decode cX10_relief 31 = .ok (.aload_n 3, 1) := by decide +kernel
theorem dX10_relief_32 : decode cX10_relief 32 = .ok (.iload_n 2, 1) := by decide +kernel
theorem dX10_relief_33 : decode cX10_relief 33 = .ok (.aload_n 0, 1) := by decide +kernel
theorem dX10_relief_34 : decode cX10_relief 34 = .ok (.getfield 39, 3) := by decide +kernel
theorem dX10_relief_37 : decode cX10_relief 37 = .ok (.invokevirtual 255, 3) := by decide +kernel
theorem dX10_relief_40 : decode cX10_relief 40 = .ok (.ireturn, 1) := by decide +kernel
theorem dX10_take_0 : decode cX10_take 0 = .ok (.aload_n 0, 1) := by decide +kernel
theorem dX10_take_1 : decode cX10_take 1 = .ok (.getfield 35, 3) := by decide +kernel
theorem dX10_take_4 : decode cX10_take 4 = .ok (.iload_n 1, 1) := by decide +kernel
theorem dX10_take_5 : decode cX10_take 5 = .ok (.invokevirtual 259, 3) := by decide +kernel
theorem dX10_take_8 : decode cX10_take 8 = .ok (.astore_n 2, 1) := by decide +kernel
theorem dX10_take_9 : decode cX10_take 9 = .ok (.aload_n 2, 1) := by decide +kernel
theorem dX10_take_10 : decode cX10_take 10 = .ok (.ifnull 17, 3) := by decide +kernel
theorem dX10_take_13 : decode cX10_take 13 = .ok (.aload_n 2, 1) := by decide +kernel
theorem dX10_take_14 : decode cX10_take 14 = .ok (.getfield 263, 3) := by decide +kernel
theorem dX10_take_17 : decode cX10_take 17 = .ok (.getfield 267, 3) := by decide +kernel
theorem dX10_take_20 : decode cX10_take 20 = .ok (.aload_n 0, 1) := by decide +kernel
theorem dX10_take_21 : decode cX10_take 21 = .ok (.getfield 39, 3) := by decide +kernel
theorem dX10_take_24 : decode cX10_take 24 = .ok (.if_icmp .ge 6, 3) := by decide +kernel
theorem dX10_take_27 : decode cX10_take 27 = .ok (.bipush (-2), 2) := by decide +kernel
theorem dX10_take_29 : decode cX10_take 29 = .ok (.ireturn, 1) := by decide +kernel
theorem dX10_take_30 : decode cX10_take 30 = .ok (.aload_n 0, 1) := by decide +kernel
theorem dX10_take_31 : decode cX10_take 31 = .ok (.getfield 10, 3) := by decide +kernel
theorem dX10_take_34 : decode cX10_take 34 = .ok (.aload_n 2, 1) := by decide +kernel
theorem dX10_take_35 : decode cX10_take 35 = .ok (.getfield 263, 3) := by decide +kernel
theorem dX10_take_38 : decode cX10_take 38 = .ok (.invokevirtual 56, 3) := by decide +kernel
theorem dX10_take_41 : decode cX10_take 41 = .ok (.istore_n 3, 1) := by decide +kernel
theorem dX10_take_42 : decode cX10_take 42 = .ok (.iload_n 3, 1) := by decide +kernel
theorem dX10_take_43 : decode cX10_take 43 = .ok (.bipush (-3), 2) := by decide +kernel
theorem dX10_take_45 : decode cX10_take 45 = .ok (.if_icmp .eq 11, 3) := by decide +kernel
theorem dX10_take_48 : decode cX10_take 48 = .ok (.aload_n 0, 1) := by decide +kernel
theorem dX10_take_49 : decode cX10_take 49 = .ok (.getfield 35, 3) := by decide +kernel
theorem dX10_take_52 : decode cX10_take 52 = .ok (.iload_n 1, 1) := by decide +kernel
theorem dX10_take_53 : decode cX10_take 53 = .ok (.invokevirtual 268, 3) := by decide +kernel
theorem dX10_take_56 : decode cX10_take 56 = .ok (.iload_n 3, 1) := by decide +kernel
theorem dX10_take_57 : decode cX10_take 57 = .ok (.ireturn, 1) := by decide +kernel
theorem dX10_count_0 : decode cX10_count 0 = .ok (.iload_n 1, 1) := by decide +kernel
theorem dX10_count_1 : decode cX10_count 1 = .ok (.tableswitch 92 0 5 #[39, 47, 55, 63, 68, 80], 39) := by decide +kernel
theorem dX10_count_40 : decode cX10_count 40 = .ok (.aload_n 0, 1) := by decide +kernel
theorem dX10_count_41 : decode cX10_count 41 = .ok (.getfield 10, 3) := by decide +kernel
theorem dX10_count_44 : decode cX10_count 44 = .ok (.getfield 271, 3) := by decide +kernel
theorem dX10_count_47 : decode cX10_count 47 = .ok (.ireturn, 1) := by decide +kernel
theorem dX10_count_48 : decode cX10_count 48 = .ok (.aload_n 0, 1) := by decide +kernel
theorem dX10_count_49 : decode cX10_count 49 = .ok (.getfield 19, 3) := by decide +kernel
theorem dX10_count_52 : decode cX10_count 52 = .ok (.getfield 274, 3) := by decide +kernel
theorem dX10_count_55 : decode cX10_count 55 = .ok (.ireturn, 1) := by decide +kernel
theorem dX10_count_56 : decode cX10_count 56 = .ok (.aload_n 0, 1) := by decide +kernel
theorem dX10_count_57 : decode cX10_count 57 = .ok (.getfield 35, 3) := by decide +kernel
theorem dX10_count_60 : decode cX10_count 60 = .ok (.getfield 275, 3) := by decide +kernel
theorem dX10_count_63 : decode cX10_count 63 = .ok (.ireturn, 1) := by decide +kernel
theorem dX10_count_64 : decode cX10_count 64 = .ok (.aload_n 0, 1) := by decide +kernel
theorem dX10_count_65 : decode cX10_count 65 = .ok (.getfield 39, 3) := by decide +kernel
theorem dX10_count_68 : decode cX10_count 68 = .ok (.ireturn, 1) := by decide +kernel
theorem dX10_count_69 : decode cX10_count 69 = .ok (.aload_n 0, 1) := by decide +kernel
theorem dX10_count_70 : decode cX10_count 70 = .ok (.getfield 10, 3) := by decide +kernel
theorem dX10_count_73 : decode cX10_count 73 = .ok (.aload_n 0, 1) := by decide +kernel
theorem dX10_count_74 : decode cX10_count 74 = .ok (.getfield 39, 3) := by decide +kernel
theorem dX10_count_77 : decode cX10_count 77 = .ok (.invokevirtual 276, 3) := by decide +kernel
theorem dX10_count_80 : decode cX10_count 80 = .ok (.ireturn, 1) := by decide +kernel
theorem dX10_count_81 : decode cX10_count 81 = .ok (.aload_n 0, 1) := by decide +kernel
theorem dX10_count_82 : decode cX10_count 82 = .ok (.getfield 19, 3) := by decide +kernel
theorem dX10_count_85 : decode cX10_count 85 = .ok (.aload_n 0, 1) := by decide +kernel
theorem dX10_count_86 : decode cX10_count 86 = .ok (.getfield 39, 3) := by decide +kernel
theorem dX10_count_89 : decode cX10_count 89 = .ok (.invokevirtual 279, 3) := by decide +kernel
theorem dX10_count_92 : decode cX10_count 92 = .ok (.ireturn, 1) := by decide +kernel
theorem dX10_count_93 : decode cX10_count 93 = .ok (.iconst (-1), 1) := by decide +kernel
theorem dX10_count_94 : decode cX10_count 94 = .ok (.ireturn, 1) := by decide +kernel
theorem dX10_isDayToCome_0 : decode cX10_isDayToCome 0 = .ok (.iload_n 1, 1) := by decide +kernel
theorem dX10_isDayToCome_1 : decode cX10_isDayToCome 1 = .ok (.aload_n 0, 1) := by decide +kernel
theorem dX10_isDayToCome_2 : decode cX10_isDayToCome 2 = .ok (.getfield 39, 3) := by decide +kernel
theorem dX10_isDayToCome_5 : decode cX10_isDayToCome 5 = .ok (.sipush 20000, 3) := by decide +kernel
theorem dX10_isDayToCome_8 : decode cX10_isDayToCome 8 = .ok (.invokestatic 64, 3) := by decide +kernel
theorem dX10_isDayToCome_11 : decode cX10_isDayToCome 11 = .ok (.ireturn, 1) := by decide +kernel
theorem dX10_canChange_0 : decode cX10_canChange 0 = .ok (.aload_n 1, 1) := by decide +kernel
theorem dX10_canChange_1 : decode cX10_canChange 1 = .ok (.getfield 282, 3) := by decide +kernel
theorem dX10_canChange_4 : decode cX10_canChange 4 = .ok (.iconst (-1), 1) := by decide +kernel
theorem dX10_canChange_5 : decode cX10_canChange 5 = .ok (.if_icmp .ne 34, 3) := by decide +kernel
theorem dX10_canChange_8 : decode cX10_canChange 8 = .ok (.aload_n 0, 1) := by decide +kernel
theorem dX10_canChange_9 : decode cX10_canChange 9 = .ok (.iload_n 2, 1) := by decide +kernel
theorem dX10_canChange_10 : decode cX10_canChange 10 = .ok (.invokevirtual 43, 3) := by decide +kernel
theorem dX10_canChange_13 : decode cX10_canChange 13 = .ok (.ifCond .eq 26, 3) := by decide +kernel
theorem dX10_canChange_16 : decode cX10_canChange 16 = .ok (.aload_n 1, 1) := by decide +kernel
theorem dX10_canChange_17 : decode cX10_canChange 17 = .ok (.iload_n 2, 1) := by decide +kernel
theorem dX10_canChange_18 : decode cX10_canChange 18 = .ok (.invokevirtual 75, 3) := by decide +kernel
theorem dX10_canChange_21 : decode cX10_canChange 21 = .ok (.ifCond .eq 18, 3) := by decide +kernel
theorem dX10_canChange_24 : decode cX10_canChange 24 = .ok (.iload_n 3, 1) := by decide +kernel
theorem dX10_canChange_25 : decode cX10_canChange 25 = .ok (.iconst 0, 1) := by decide +kernel
theorem dX10_canChange_26 : decode cX10_canChange 26 = .ok (.sipush 1000, 3) := by decide +kernel
theorem dX10_canChange_29 : decode cX10_canChange 29 = .ok (.invokestatic 64, 3) := by decide +kernel
theorem dX10_canChange_32 : decode cX10_canChange 32 = .ok (.ifCond .eq 7, 3) := by decide +kernel
theorem dX10_canChange_35 : decode cX10_canChange 35 = .ok (.iconst 1, 1) := by decide +kernel
theorem dX10_canChange_36 : decode cX10_canChange 36 = .ok (.goto 4, 3) := by decide +kernel
theorem dX10_canChange_39 : decode cX10_canChange 39 = .ok (.iconst 0, 1) := by decide +kernel
theorem dX10_canChange_40 : decode cX10_canChange 40 = .ok (.ireturn, 1) := by decide +kernel
theorem dX10_callWith_0 : decode cX10_callWith 0 = .ok (.iload_n 1, 1) := by decide +kernel
theorem dX10_callWith_1 : decode cX10_callWith 1 = .ok (.ifCond .lt 21, 3) := by decide +kernel
theorem dX10_callWith_4 : decode cX10_callWith 4 = .ok (.iload_n 1, 1) := by decide +kernel
theorem dX10_callWith_5 : decode cX10_callWith 5 = .ok (.aload_n 0, 1) := by decide +kernel
theorem dX10_callWith_6 : decode cX10_callWith 6 = .ok (.getfield 25, 3) := by decide +kernel
theorem dX10_callWith_9 : decode cX10_callWith 9 = .ok (.arraylength, 1) := by decide +kernel
theorem dX10_callWith_10 : decode cX10_callWith 10 = .ok (.if_icmp .ge 12, 3) := by decide +kernel
theorem dX10_callWith_13 : decode cX10_callWith 13 = .ok (.aload_n 0, 1) := by decide +kernel
theorem dX10_callWith_14 : decode cX10_callWith 14 = .ok (.getfield 25, 3) := by decide +kernel
theorem dX10_callWith_17 : decode cX10_callWith 17 = .ok (.iload_n 1, 1) := by decide +kernel
theorem dX10_callWith_18 : decode cX10_callWith 18 = .ok (.aaload, 1) := by decide +kernel
theorem dX10_callWith_19 : decode cX10_callWith 19 = .ok (.goto 4, 3) := by decide +kernel
theorem dX10_callWith_22 : decode cX10_callWith 22 = .ok (.aconst_null, 1) := by decide +kernel
theorem dX10_callWith_23 : decode cX10_callWith 23 = .ok (.areturn, 1) := by decide +kernel
theorem dX10_tellOfLead_0 : decode cX10_tellOfLead 0 = .ok (.aload_n 0, 1) := by decide +kernel
theorem dX10_tellOfLead_1 : decode cX10_tellOfLead 1 = .ok (.getfield 10, 3) := by decide +kernel
theorem dX10_tellOfLead_4 : decode cX10_tellOfLead 4 = .ok (.aload_n 1, 1) := by decide +kernel
theorem dX10_tellOfLead_5 : decode cX10_tellOfLead 5 = .ok (.getfield 182, 3) := by decide +kernel
theorem dX10_tellOfLead_8 : decode cX10_tellOfLead 8 = .ok (.aload_n 1, 1) := by decide +kernel
theorem dX10_tellOfLead_9 : decode cX10_tellOfLead 9 = .ok (.getfield 185, 3) := by decide +kernel
theorem dX10_tellOfLead_12 : decode cX10_tellOfLead 12 = .ok (.aload_n 1, 1) := by decide +kernel
theorem dX10_tellOfLead_13 : decode cX10_tellOfLead 13 = .ok (.getfield 186, 3) := by decide +kernel
theorem dX10_tellOfLead_16 : decode cX10_tellOfLead 16 = .ok (.invokevirtual 214, 3) := by decide +kernel
theorem dX10_tellOfLead_19 : decode cX10_tellOfLead 19 = .ok (.astore_n 3, 1) := by decide +kernel
theorem dX10_tellOfLead_20 : decode cX10_tellOfLead 20 = .ok (.aload_n 3, 1) := by decide +kernel
theorem dX10_tellOfLead_21 : decode cX10_tellOfLead 21 = .ok (.ifnonnull 5, 3) := by decide +kernel
theorem dX10_tellOfLead_24 : decode cX10_tellOfLead 24 = .ok (.iconst (-1), 1) := by decide +kernel
theorem dX10_tellOfLead_25 : decode cX10_tellOfLead 25 = .ok (.ireturn, 1) := by decide +kernel
theorem dX10_tellOfLead_26 : decode cX10_tellOfLead 26 = .ok (.iload_n 2, 1) := by decide +kernel
theorem dX10_tellOfLead_27 : decode cX10_tellOfLead 27 = .ok (.iconst 4, 1) := by decide +kernel
theorem dX10_tellOfLead_28 : decode cX10_tellOfLead 28 = .ok (.if_icmp .ne 8, 3) := by decide +kernel
theorem dX10_tellOfLead_31 : decode cX10_tellOfLead 31 = .ok (.aload_n 3, 1) := by decide +kernel
theorem dX10_tellOfLead_32 : decode cX10_tellOfLead 32 = .ok (.getfield 161, 3) := by decide +kernel
theorem dX10_tellOfLead_35 : decode cX10_tellOfLead 35 = .ok (.ireturn, 1) := by decide +kernel
theorem dX10_tellOfLead_36 : decode cX10_tellOfLead 36 = .ok (.iload_n 2, 1) := by decide +kernel
theorem dX10_tellOfLead_37 : decode cX10_tellOfLead 37 = .ok (.bipush 7, 2) := by decide +kernel
theorem dX10_tellOfLead_39 : decode cX10_tellOfLead 39 = .ok (.if_icmp .ne 20, 3) := by decide +kernel
theorem dX10_tellOfLead_42 : decode cX10_tellOfLead 42 = .ok (.aload_n 3, 1) := by decide +kernel
theorem dX10_tellOfLead_43 : decode cX10_tellOfLead 43 = .ok (.getfield 72, 3) := by decide +kernel
theorem dX10_tellOfLead_46 : decode cX10_tellOfLead 46 = .ok (.iconst 1, 1) := by decide +kernel
theorem dX10_tellOfLead_47 : decode cX10_tellOfLead 47 = .ok (.if_icmp .ne 10, 3) := by decide +kernel
theorem dX10_tellOfLead_50 : decode cX10_tellOfLead 50 = .ok (.aload_n 3, 1) := by decide +kernel
theorem dX10_tellOfLead_51 : decode cX10_tellOfLead 51 = .ok (.getfield 108, 3) := by decide +kernel
theorem dX10_tellOfLead_54 : decode cX10_tellOfLead 54 = .ok (.goto 4, 3) := by decide +kernel
theorem dX10_tellOfLead_57 : decode cX10_tellOfLead 57 = .ok (.iconst (-1), 1) := by decide +kernel
theorem dX10_tellOfLead_58 : decode cX10_tellOfLead 58 = .ok (.ireturn, 1) := by decide +kernel
theorem dX10_tellOfLead_59 : decode cX10_tellOfLead 59 = .ok (.aload_n 0, 1) := by decide +kernel
theorem dX10_tellOfLead_60 : decode cX10_tellOfLead 60 = .ok (.getfield 19, 3) := by decide +kernel
theorem dX10_tellOfLead_63 : decode cX10_tellOfLead 63 = .ok (.aload_n 3, 1) := by decide +kernel
theorem dX10_tellOfLead_64 : decode cX10_tellOfLead 64 = .ok (.aload_n 1, 1) := by decide +kernel
theorem dX10_tellOfLead_65 : decode cX10_tellOfLead 65 = .ok (.getfield 182, 3) := by decide +kernel
theorem dX10_tellOfLead_68 : decode cX10_tellOfLead 68 = .ok (.aload_n 1, 1) := by decide +kernel
theorem dX10_tellOfLead_69 : decode cX10_tellOfLead 69 = .ok (.getfield 185, 3) := by decide +kernel
theorem dX10_tellOfLead_72 : decode cX10_tellOfLead 72 = .ok (.aload_n 1, 1) := by decide +kernel
theorem dX10_tellOfLead_73 : decode cX10_tellOfLead 73 = .ok (.getfield 186, 3) := by decide +kernel
theorem dX10_tellOfLead_76 : decode cX10_tellOfLead 76 = .ok (.invokevirtual 218, 3) := by decide +kernel
theorem dX10_tellOfLead_79 : decode cX10_tellOfLead 79 = .ok (.istore 4, 2) := by decide +kernel
theorem dX10_tellOfLead_81 : decode cX10_tellOfLead 81 = .ok (.aload_n 0, 1) := by decide +kernel
theorem dX10_tellOfLead_82 : decode cX10_tellOfLead 82 = .ok (.getfield 19, 3) := by decide +kernel
theorem dX10_tellOfLead_85 : decode cX10_tellOfLead 85 = .ok (.iload 4, 2) := by decide +kernel
theorem dX10_tellOfLead_87 : decode cX10_tellOfLead 87 = .ok (.invokevirtual 138, 3) := by decide +kernel
theorem dX10_tellOfLead_90 : decode cX10_tellOfLead 90 = .ok (.astore 5, 2) := by decide +kernel
theorem dX10_tellOfLead_92 : decode cX10_tellOfLead 92 = .ok (.iload_n 2, 1) := by decide +kernel
theorem dX10_tellOfLead_93 : decode cX10_tellOfLead 93 = .ok (.iconst 5, 1) := by decide +kernel
theorem dX10_tellOfLead_94 : decode cX10_tellOfLead 94 = .ok (.if_icmp .eq 8, 3) := by decide +kernel
theorem dX10_tellOfLead_97 : decode cX10_tellOfLead 97 = .ok (.aload 5, 2) := by decide +kernel
theorem dX10_tellOfLead_99 : decode cX10_tellOfLead 99 = .ok (.ifnonnull 8, 3) := by decide +kernel
theorem dX10_tellOfLead_102 : decode cX10_tellOfLead 102 = .ok (.iload 4, 2) := by decide +kernel
theorem dX10_tellOfLead_104 : decode cX10_tellOfLead 104 = .ok (.goto 12, 3) := by decide +kernel
theorem dX10_tellOfLead_107 : decode cX10_tellOfLead 107 = .ok (.aload 5, 2) := by decide +kernel
theorem dX10_tellOfLead_109 : decode cX10_tellOfLead 109 = .ok (.aload_n 1, 1) := by decide +kernel
theorem dX10_tellOfLead_110 : decode cX10_tellOfLead 110 = .ok (.getfield 186, 3) := by decide +kernel
theorem dX10_tellOfLead_113 : decode cX10_tellOfLead 113 = .ok (.invokevirtual 164, 3) := by decide +kernel
theorem dX10_tellOfLead_116 : decode cX10_tellOfLead 116 = .ok (.ireturn, 1) := by decide +kernel
theorem dX10_tellOfRest_0 : decode cX10_tellOfRest 0 = .ok (.aload_n 1, 1) := by decide +kernel
theorem dX10_tellOfRest_1 : decode cX10_tellOfRest 1 = .ok (.getfield 200, 3) := by decide +kernel
theorem dX10_tellOfRest_4 : decode cX10_tellOfRest 4 = .ok (.ifCond .eq 15, 3) := by decide +kernel
theorem dX10_tellOfRest_7 : decode cX10_tellOfRest 7 = .ok (.iload_n 2, 1) := by decide +kernel
theorem dX10_tellOfRest_8 : decode cX10_tellOfRest 8 = .ok (.bipush 8, 2) := by decide +kernel
theorem dX10_tellOfRest_10 : decode cX10_tellOfRest 10 = .ok (.if_icmp .ne 7, 3) := by decide +kernel
theorem dX10_tellOfRest_13 : decode cX10_tellOfRest 13 = .ok (.iconst 0, 1) := by decide +kernel
theorem dX10_tellOfRest_14 : decode cX10_tellOfRest 14 = .ok (.goto 4, 3) := by decide +kernel
theorem dX10_tellOfRest_17 : decode cX10_tellOfRest 17 = .ok (.iconst (-1), 1) := by decide +kernel
theorem dX10_tellOfRest_18 : decode cX10_tellOfRest 18 = .ok (.ireturn, 1) := by decide +kernel
theorem dX10_tellOfRest_19 : decode cX10_tellOfRest 19 = .ok (.aload_n 0, 1) := by decide +kernel
theorem dX10_tellOfRest_20 : decode cX10_tellOfRest 20 = .ok (.getfield 10, 3) := by decide +kernel
theorem dX10_tellOfRest_23 : decode cX10_tellOfRest 23 = .ok (.aload_n 1, 1) := by decide +kernel
theorem dX10_tellOfRest_24 : decode cX10_tellOfRest 24 = .ok (.getfield 182, 3) := by decide +kernel
theorem dX10_tellOfRest_27 : decode cX10_tellOfRest 27 = .ok (.aload_n 1, 1) := by decide +kernel
theorem dX10_tellOfRest_28 : decode cX10_tellOfRest 28 = .ok (.getfield 185, 3) := by decide +kernel
theorem dX10_tellOfRest_31 : decode cX10_tellOfRest 31 = .ok (.aload_n 1, 1) := by decide +kernel
theorem dX10_tellOfRest_32 : decode cX10_tellOfRest 32 = .ok (.getfield 186, 3) := by decide +kernel
theorem dX10_tellOfRest_35 : decode cX10_tellOfRest 35 = .ok (.invokevirtual 189, 3) := by decide +kernel
theorem dX10_tellOfRest_38 : decode cX10_tellOfRest 38 = .ok (.astore_n 3, 1) := by decide +kernel
theorem dX10_tellOfRest_39 : decode cX10_tellOfRest 39 = .ok (.iload_n 2, 1) := by decide +kernel
theorem dX10_tellOfRest_40 : decode cX10_tellOfRest 40 = .ok (.bipush 8, 2) := by decide +kernel
theorem dX10_tellOfRest_42 : decode cX10_tellOfRest 42 = .ok (.if_icmp .ne 8, 3) := by decide +kernel
theorem dX10_tellOfRest_45 : decode cX10_tellOfRest 45 = .ok (.aload_n 3, 1) := by decide +kernel
theorem dX10_tellOfRest_46 : decode cX10_tellOfRest 46 = .ok (.getfield 285, 3) := by decide +kernel
theorem dX10_tellOfRest_49 : decode cX10_tellOfRest 49 = .ok (.ireturn, 1) := by decide +kernel
theorem dX10_tellOfRest_50 : decode cX10_tellOfRest 50 = .ok (.iload_n 2, 1) := by decide +kernel
theorem dX10_tellOfRest_51 : decode cX10_tellOfRest 51 = .ok (.bipush 9, 2) := by decide +kernel
theorem dX10_tellOfRest_53 : decode cX10_tellOfRest 53 = .ok (.if_icmp .ne 10, 3) := by decide +kernel
theorem dX10_tellOfRest_56 : decode cX10_tellOfRest 56 = .ok (.aload_n 3, 1) := by decide +kernel
theorem dX10_tellOfRest_57 : decode cX10_tellOfRest 57 = .ok (.getfield 288, 3) := by decide +kernel
theorem dX10_tellOfRest_60 : decode cX10_tellOfRest 60 = .ok (.goto 7, 3) := by decide +kernel
theorem dX10_tellOfRest_63 : decode cX10_tellOfRest 63 = .ok (.aload_n 3, 1) := by decide +kernel
theorem dX10_tellOfRest_64 : decode cX10_tellOfRest 64 = .ok (.getfield 291, 3) := by decide +kernel
theorem dX10_tellOfRest_67 : decode cX10_tellOfRest 67 = .ok (.ireturn, 1) := by decide +kernel
theorem dX10_isDay_0 : decode cX10_isDay 0 = .ok (.iload_n 0, 1) := by decide +kernel
theorem dX10_isDay_1 : decode cX10_isDay 1 = .ok (.iconst 0, 1) := by decide +kernel
theorem dX10_isDay_2 : decode cX10_isDay 2 = .ok (.sipush 20000, 3) := by decide +kernel
theorem dX10_isDay_5 : decode cX10_isDay 5 = .ok (.invokestatic 64, 3) := by decide +kernel
theorem dX10_isDay_8 : decode cX10_isDay 8 = .ok (.ireturn, 1) := by decide +kernel
theorem dX10_isBlock_0 : decode cX10_isBlock 0 = .ok (.iload_n 1, 1) := by decide +kernel
theorem dX10_isBlock_1 : decode cX10_isBlock 1 = .ok (.i2l, 1) := by decide +kernel
theorem dX10_isBlock_2 : decode cX10_isBlock 2 = .ok (.invokestatic 60, 3) := by decide +kernel
theorem dX10_isBlock_5 : decode cX10_isBlock 5 = .ok (.istore 4, 2) := by decide +kernel
theorem dX10_isBlock_7 : decode cX10_isBlock 7 = .ok (.iload_n 0, 1) := by decide +kernel
theorem dX10_isBlock_8 : decode cX10_isBlock 8 = .ok (.iconst 0, 1) := by decide +kernel
theorem dX10_isBlock_9 : decode cX10_isBlock 9 = .ok (.bipush 15, 2) := by decide +kernel
theorem dX10_isBlock_11 : decode cX10_isBlock 11 = .ok (.invokestatic 64, 3) := by decide +kernel
theorem dX10_isBlock_14 : decode cX10_isBlock 14 = .ok (.ifCond .eq 42, 3) := by decide +kernel
theorem dX10_isBlock_17 : decode cX10_isBlock 17 = .ok (.iload 4, 2) := by decide +kernel
theorem dX10_isBlock_19 : decode cX10_isBlock 19 = .ok (.iconst 1, 1) := by decide +kernel
theorem dX10_isBlock_20 : decode cX10_isBlock 20 = .ok (.bipush 7, 2) := by decide +kernel
theorem dX10_isBlock_22 : decode cX10_isBlock 22 = .ok (.invokestatic 64, 3) := by decide +kernel
theorem dX10_isBlock_25 : decode cX10_isBlock 25 = .ok (.ifCond .eq 31, 3) := by decide +kernel
theorem dX10_isBlock_28 : decode cX10_isBlock 28 = .ok (.iload_n 2, 1) := by decide +kernel
theorem dX10_isBlock_29 : decode cX10_isBlock 29 = .ok (.iconst 1, 1) := by decide +kernel
theorem dX10_isBlock_30 : decode cX10_isBlock 30 = .ok (.sipush 1023, 3) := by decide +kernel
theorem dX10_isBlock_33 : decode cX10_isBlock 33 = .ok (.invokestatic 64, 3) := by decide +kernel
theorem dX10_isBlock_36 : decode cX10_isBlock 36 = .ok (.ifCond .eq 20, 3) := by decide +kernel
theorem dX10_isBlock_39 : decode cX10_isBlock 39 = .ok (.iload_n 3, 1) := by decide +kernel
theorem dX10_isBlock_40 : decode cX10_isBlock 40 = .ok (.iload 4, 2) := by decide +kernel
theorem dX10_isBlock_42 : decode cX10_isBlock 42 = .ok (.iconst 1, 1) := by decide +kernel
theorem dX10_isBlock_43 : decode cX10_isBlock 43 = .ok (.iadd, 1) := by decide +kernel
theorem dX10_isBlock_44 : decode cX10_isBlock 44 = .ok (.bipush 12, 2) := by decide +kernel
theorem dX10_isBlock_46 : decode cX10_isBlock 46 = .ok (.invokestatic 64, 3) := by decide +kernel
theorem dX10_isBlock_49 : decode cX10_isBlock 49 = .ok (.ifCond .eq 7, 3) := by decide +kernel
theorem dX10_isBlock_52 : decode cX10_isBlock 52 = .ok (.iconst 1, 1) := by decide +kernel
theorem dX10_isBlock_53 : decode cX10_isBlock 53 = .ok (.goto 4, 3) := by decide +kernel
theorem dX10_isBlock_56 : decode cX10_isBlock 56 = .ok (.iconst 0, 1) := by decide +kernel
theorem dX10_isBlock_57 : decode cX10_isBlock 57 = .ok (.ireturn, 1) := by decide +kernel
theorem dX10_isWithin_0 : decode cX10_isWithin 0 = .ok (.iload_n 0, 1) := by decide +kernel
theorem dX10_isWithin_1 : decode cX10_isWithin 1 = .ok (.iload_n 1, 1) := by decide +kernel
theorem dX10_isWithin_2 : decode cX10_isWithin 2 = .ok (.if_icmp .lt 12, 3) := by decide +kernel
theorem dX10_isWithin_5 : decode cX10_isWithin 5 = .ok (.iload_n 0, 1) := by decide +kernel
theorem dX10_isWithin_6 : decode cX10_isWithin 6 = .ok (.iload_n 2, 1) := by decide +kernel
theorem dX10_isWithin_7 : decode cX10_isWithin 7 = .ok (.if_icmp .gt 7, 3) := by decide +kernel
theorem dX10_isWithin_10 : decode cX10_isWithin 10 = .ok (.iconst 1, 1) := by decide +kernel
theorem dX10_isWithin_11 : decode cX10_isWithin 11 = .ok (.goto 4, 3) := by decide +kernel
theorem dX10_isWithin_14 : decode cX10_isWithin 14 = .ok (.iconst 0, 1) := by decide +kernel
theorem dX10_isWithin_15 : decode cX10_isWithin 15 = .ok (.ireturn, 1) := by decide +kernel
theorem dX10_tens_0 : decode cX10_tens 0 = .ok (.iload_n 0, 1) := by decide +kernel
theorem dX10_tens_1 : decode cX10_tens 1 = .ok (.ifCond .lt 19, 3) := by decide +kernel
theorem dX10_tens_4 : decode cX10_tens 4 = .ok (.iload_n 0, 1) := by decide +kernel
theorem dX10_tens_5 : decode cX10_tens 5 = .ok (.getstatic 294, 3) := by decide +kernel
theorem dX10_tens_8 : decode cX10_tens 8 = .ok (.arraylength, 1) := by decide +kernel
theorem dX10_tens_9 : decode cX10_tens 9 = .ok (.if_icmp .ge 11, 3) := by decide +kernel
theorem dX10_tens_12 : decode cX10_tens 12 = .ok (.getstatic 294, 3) := by decide +kernel
theorem dX10_tens_15 : decode cX10_tens 15 = .ok (.iload_n 0, 1) := by decide +kernel
theorem dX10_tens_16 : decode cX10_tens 16 = .ok (.laload, 1) := by decide +kernel
theorem dX10_tens_17 : decode cX10_tens 17 = .ok (.goto 4, 3) := by decide +kernel
theorem dX10_tens_20 : decode cX10_tens 20 = .ok (.lconst 1, 1) := by decide +kernel
theorem dX10_tens_21 : decode cX10_tens 21 = .ok (.lreturn, 1) := by decide +kernel
theorem dX10_placesOf_0 : decode cX10_placesOf 0 = .ok (.iconst 0, 1) := by decide +kernel
theorem dX10_placesOf_1 : decode cX10_placesOf 1 = .ok (.istore_n 2, 1) := by decide +kernel
theorem dX10_placesOf_2 : decode cX10_placesOf 2 = .ok (.iload_n 2, 1) := by decide +kernel
theorem dX10_placesOf_3 : decode cX10_placesOf 3 = .ok (.getstatic 294, 3) := by decide +kernel
theorem dX10_placesOf_6 : decode cX10_placesOf 6 = .ok (.arraylength, 1) := by decide +kernel
theorem dX10_placesOf_7 : decode cX10_placesOf 7 = .ok (.if_icmp .ge 35, 3) := by decide +kernel
theorem dX10_placesOf_10 : decode cX10_placesOf 10 = .ok (.lload_n 0, 1) := by decide +kernel
theorem dX10_placesOf_11 : decode cX10_placesOf 11 = .ok (.getstatic 294, 3) := by decide +kernel
theorem dX10_placesOf_14 : decode cX10_placesOf 14 = .ok (.iload_n 2, 1) := by decide +kernel
theorem dX10_placesOf_15 : decode cX10_placesOf 15 = .ok (.laload, 1) := by decide +kernel
theorem dX10_placesOf_16 : decode cX10_placesOf 16 = .ok (.lcmp, 1) := by decide +kernel
theorem dX10_placesOf_17 : decode cX10_placesOf 17 = .ok (.ifCond .lt 19, 3) := by decide +kernel
theorem dX10_placesOf_20 : decode cX10_placesOf 20 = .ok (.lload_n 0, 1) := by decide +kernel
theorem dX10_placesOf_21 : decode cX10_placesOf 21 = .ok (.ldc2_w 298, 3) := by decide +kernel
theorem dX10_placesOf_24 : decode cX10_placesOf 24 = .ok (.getstatic 294, 3) := by decide +kernel
theorem dX10_placesOf_27 : decode cX10_placesOf 27 = .ok (.iload_n 2, 1) := by decide +kernel
theorem dX10_placesOf_28 : decode cX10_placesOf 28 = .ok (.laload, 1) := by decide +kernel
theorem dX10_placesOf_29 : decode cX10_placesOf 29 = .ok (.lmul, 1) := by decide +kernel
theorem dX10_placesOf_30 : decode cX10_placesOf 30 = .ok (.lcmp, 1) := by decide +kernel
theorem dX10_placesOf_31 : decode cX10_placesOf 31 = .ok (.ifCond .ge 5, 3) := by decide +kernel
theorem dX10_placesOf_34 : decode cX10_placesOf 34 = .ok (.iload_n 2, 1) := by decide +kernel
theorem dX10_placesOf_35 : decode cX10_placesOf 35 = .ok (.ireturn, 1) := by decide +kernel
theorem dX10_placesOf_36 : decode cX10_placesOf 36 = .ok (.iinc 2 1, 3) := by decide +kernel
theorem dX10_placesOf_39 : decode cX10_placesOf 39 = .ok (.goto (-37), 3) := by decide +kernel
theorem dX10_placesOf_42 : decode cX10_placesOf 42 = .ok (.iconst (-1), 1) := by decide +kernel
theorem dX10_placesOf_43 : decode cX10_placesOf 43 = .ok (.ireturn, 1) := by decide +kernel
theorem dX10_withoutLast_0 : decode cX10_withoutLast 0 = .ok (.iload_n 2, 1) := by decide +kernel
theorem dX10_withoutLast_1 : decode cX10_withoutLast 1 = .ok (.ifCond .le 11, 3) := by decide +kernel
theorem dX10_withoutLast_4 : decode cX10_withoutLast 4 = .ok (.iload_n 2, 1) := by decide +kernel
theorem dX10_withoutLast_5 : decode cX10_withoutLast 5 = .ok (.getstatic 294, 3) := by decide +kernel
theorem dX10_withoutLast_8 : decode cX10_withoutLast 8 = .ok (.arraylength, 1) := by decide +kernel
theorem dX10_withoutLast_9 : decode cX10_withoutLast 9 = .ok (.if_icmp .lt 5, 3) := by decide +kernel
theorem dX10_withoutLast_12 : decode cX10_withoutLast 12 = .ok (.lload_n 0, 1) := by decide +kernel
theorem dX10_withoutLast_13 : decode cX10_withoutLast 13 = .ok (.lreturn, 1) := by decide +kernel
theorem dX10_withoutLast_14 : decode cX10_withoutLast 14 = .ok (.getstatic 294, 3) := by decide +kernel
theorem dX10_withoutLast_17 : decode cX10_withoutLast 17 = .ok (.iload_n 2, 1) := by decide +kernel
theorem dX10_withoutLast_18 : decode cX10_withoutLast 18 = .ok (.laload, 1) := by decide +kernel
theorem dX10_withoutLast_19 : decode cX10_withoutLast 19 = .ok (.lstore_n 3, 1) := by decide +kernel
theorem dX10_withoutLast_20 : decode cX10_withoutLast 20 = .ok (.lload_n 3, 1) := by decide +kernel
theorem dX10_withoutLast_21 : decode cX10_withoutLast 21 = .ok (.lconst 0, 1) := by decide +kernel
theorem dX10_withoutLast_22 : decode cX10_withoutLast 22 = .ok (.lcmp, 1) := by decide +kernel
theorem dX10_withoutLast_23 : decode cX10_withoutLast 23 = .ok (.ifCond .le 9, 3) := by decide +kernel
theorem dX10_withoutLast_26 : decode cX10_withoutLast 26 = .ok (.lload_n 0, 1) := by decide +kernel
theorem dX10_withoutLast_27 : decode cX10_withoutLast 27 = .ok (.lload_n 3, 1) := by decide +kernel
theorem dX10_withoutLast_28 : decode cX10_withoutLast 28 = .ok (.ldiv, 1) := by decide +kernel
theorem dX10_withoutLast_29 : decode cX10_withoutLast 29 = .ok (.goto 4, 3) := by decide +kernel
theorem dX10_withoutLast_32 : decode cX10_withoutLast 32 = .ok (.lload_n 0, 1) := by decide +kernel
theorem dX10_withoutLast_33 : decode cX10_withoutLast 33 = .ok (.lreturn, 1) := by decide +kernel
theorem dX10_lastOf_0 : decode cX10_lastOf 0 = .ok (.iload_n 2, 1) := by decide +kernel
theorem dX10_lastOf_1 : decode cX10_lastOf 1 = .ok (.invokestatic 300, 3) := by decide +kernel
theorem dX10_lastOf_4 : decode cX10_lastOf 4 = .ok (.lstore_n 3, 1) := by decide +kernel
theorem dX10_lastOf_5 : decode cX10_lastOf 5 = .ok (.lload_n 3, 1) := by decide +kernel
theorem dX10_lastOf_6 : decode cX10_lastOf 6 = .ok (.lconst 0, 1) := by decide +kernel
theorem dX10_lastOf_7 : decode cX10_lastOf 7 = .ok (.lcmp, 1) := by decide +kernel
theorem dX10_lastOf_8 : decode cX10_lastOf 8 = .ok (.ifCond .le 11, 3) := by decide +kernel
theorem dX10_lastOf_11 : decode cX10_lastOf 11 = .ok (.lload_n 3, 1) := by decide +kernel
theorem dX10_lastOf_12 : decode cX10_lastOf 12 = .ok (.lload_n 0, 1) := by decide +kernel
theorem dX10_lastOf_13 : decode cX10_lastOf 13 = .ok (.lload_n 3, 1) := by decide +kernel
theorem dX10_lastOf_14 : decode cX10_lastOf 14 = .ok (.lrem, 1) := by decide +kernel
theorem dX10_lastOf_15 : decode cX10_lastOf 15 = .ok (.ladd, 1) := by decide +kernel
theorem dX10_lastOf_16 : decode cX10_lastOf 16 = .ok (.goto 4, 3) := by decide +kernel
theorem dX10_lastOf_19 : decode cX10_lastOf 19 = .ok (.lload_n 0, 1) := by decide +kernel
theorem dX10_lastOf_20 : decode cX10_lastOf 20 = .ok (.lreturn, 1) := by decide +kernel
theorem dX10_figureBit_0 : decode cX10_figureBit 0 = .ok (.iconst 1, 1) := by decide +kernel
theorem dX10_figureBit_1 : decode cX10_figureBit 1 = .ok (.lload_n 0, 1) := by decide +kernel
theorem dX10_figureBit_2 : decode cX10_figureBit 2 = .ok (.iload_n 2, 1) := by decide +kernel
theorem dX10_figureBit_3 : decode cX10_figureBit 3 = .ok (.iconst 1, 1) := by decide +kernel
theorem dX10_figureBit_4 : decode cX10_figureBit 4 = .ok (.isub, 1) := by decide +kernel
theorem dX10_figureBit_5 : decode cX10_figureBit 5 = .ok (.iload_n 3, 1) := by decide +kernel
theorem dX10_figureBit_6 : decode cX10_figureBit 6 = .ok (.isub, 1) := by decide +kernel
theorem dX10_figureBit_7 : decode cX10_figureBit 7 = .ok (.invokestatic 303, 3) := by decide +kernel
theorem dX10_figureBit_10 : decode cX10_figureBit 10 = .ok (.ldc2_w 307, 3) := by decide +kernel
theorem dX10_figureBit_13 : decode cX10_figureBit 13 = .ok (.lrem, 1) := by decide +kernel
theorem dX10_figureBit_14 : decode cX10_figureBit 14 = .ok (.l2i, 1) := by decide +kernel
theorem dX10_figureBit_15 : decode cX10_figureBit 15 = .ok (.ishl, 1) := by decide +kernel
theorem dX10_figureBit_16 : decode cX10_figureBit 16 = .ok (.ireturn, 1) := by decide +kernel
theorem dX10_weekBehind_0 : decode cX10_weekBehind 0 = .ok (.iload_n 0, 1) := by decide +kernel
theorem dX10_weekBehind_1 : decode cX10_weekBehind 1 = .ok (.bipush 7, 2) := by decide +kernel
theorem dX10_weekBehind_3 : decode cX10_weekBehind 3 = .ok (.iadd, 1) := by decide +kernel
theorem dX10_weekBehind_4 : decode cX10_weekBehind 4 = .ok (.iconst 1, 1) := by decide +kernel
theorem dX10_weekBehind_5 : decode cX10_weekBehind 5 = .ok (.isub, 1) := by decide +kernel
theorem dX10_weekBehind_6 : decode cX10_weekBehind 6 = .ok (.bipush 7, 2) := by decide +kernel
theorem dX10_weekBehind_8 : decode cX10_weekBehind 8 = .ok (.idiv, 1) := by decide +kernel
theorem dX10_weekBehind_9 : decode cX10_weekBehind 9 = .ok (.ireturn, 1) := by decide +kernel
theorem dX11_init_0 : decode cX11_init 0 = .ok (.aload_n 0, 1) := by decide +kernel
theorem dX11_init_1 : decode cX11_init 1 = .ok (.invokespecial 1, 3) := by decide +kernel
theorem dX11_init_4 : decode cX11_init 4 = .ok (.aload_n 0, 1) := by decide +kernel
theorem dX11_init_5 : decode cX11_init 5 = .ok (.sipush 130, 3) := by decide +kernel
theorem dX11_init_8 : decode cX11_init 8 = .ok (.newarray .int, 2) := by decide +kernel
theorem dX11_init_10 : decode cX11_init 10 = .ok (.putfield 7, 3) := by decide +kernel
theorem dX11_init_13 : decode cX11_init 13 = .ok (.aload_n 0, 1) := by decide +kernel
theorem dX11_init_14 : decode cX11_init 14 = .ok (.sipush 130, 3) := by decide +kernel
theorem dX11_init_17 : decode cX11_init 17 = .ok (.newarray .int, 2) := by decide +kernel
theorem dX11_init_19 : decode cX11_init 19 = .ok (.putfield 13, 3) := by decide +kernel
theorem dX11_init_22 : decode cX11_init 22 = .ok (.aload_n 0, 1) := by decide +kernel
theorem dX11_init_23 : decode cX11_init 23 = .ok (.sipush 130, 3) := by decide +kernel
theorem dX11_init_26 : decode cX11_init 26 = .ok (.newarray .int, 2) := by decide +kernel
theorem dX11_init_28 : decode cX11_init 28 = .ok (.putfield 16, 3) := by decide +kernel
theorem dX11_init_31 : decode cX11_init 31 = .ok (.aload_n 0, 1) := by decide +kernel
theorem dX11_init_32 : decode cX11_init 32 = .ok (.sipush 130, 3) := by decide +kernel
theorem dX11_init_35 : decode cX11_init 35 = .ok (.newarray .int, 2) := by decide +kernel
theorem dX11_init_37 : decode cX11_init 37 = .ok (.putfield 19, 3) := by decide +kernel
theorem dX11_init_40 : decode cX11_init 40 = .ok (.aload_n 0, 1) := by decide +kernel
theorem dX11_init_41 : decode cX11_init 41 = .ok (.sipush 130, 3) := by decide +kernel
theorem dX11_init_44 : decode cX11_init 44 = .ok (.newarray .int, 2) := by decide +kernel
theorem dX11_init_46 : decode cX11_init 46 = .ok (.putfield 22, 3) := by decide +kernel
theorem dX11_init_49 : decode cX11_init 49 = .ok (.aload_n 0, 1) := by decide +kernel
theorem dX11_init_50 : decode cX11_init 50 = .ok (.sipush 130, 3) := by decide +kernel
theorem dX11_init_53 : decode cX11_init 53 = .ok (.newarray .int, 2) := by decide +kernel
theorem dX11_init_55 : decode cX11_init 55 = .ok (.putfield 25, 3) := by decide +kernel
theorem dX11_init_58 : decode cX11_init 58 = .ok (.aload_n 0, 1) := by decide +kernel
theorem dX11_init_59 : decode cX11_init 59 = .ok (.sipush 130, 3) := by decide +kernel
theorem dX11_init_62 : decode cX11_init 62 = .ok (.newarray .int, 2) := by decide +kernel
theorem dX11_init_64 : decode cX11_init 64 = .ok (.putfield 28, 3) := by decide +kernel
theorem dX11_init_67 : decode cX11_init 67 = .ok (.aload_n 0, 1) := by decide +kernel
theorem dX11_init_68 : decode cX11_init 68 = .ok (.sipush 130, 3) := by decide +kernel
theorem dX11_init_71 : decode cX11_init 71 = .ok (.newarray .int, 2) := by decide +kernel
theorem dX11_init_73 : decode cX11_init 73 = .ok (.putfield 31, 3) := by decide +kernel
theorem dX11_init_76 : decode cX11_init 76 = .ok (.aload_n 0, 1) := by decide +kernel
theorem dX11_init_77 : decode cX11_init 77 = .ok (.sipush 130, 3) := by decide +kernel
theorem dX11_init_80 : decode cX11_init 80 = .ok (.newarray .int, 2) := by decide +kernel
theorem dX11_init_82 : decode cX11_init 82 = .ok (.putfield 34, 3) := by decide +kernel
theorem dX11_init_85 : decode cX11_init 85 = .ok (.aload_n 0, 1) := by decide +kernel
theorem dX11_init_86 : decode cX11_init 86 = .ok (.sipush 130, 3) := by decide +kernel
theorem dX11_init_89 : decode cX11_init 89 = .ok (.newarray .int, 2) := by decide +kernel
theorem dX11_init_91 : decode cX11_init 91 = .ok (.putfield 37, 3) := by decide +kernel
theorem dX11_init_94 : decode cX11_init 94 = .ok (.aload_n 0, 1) := by decide +kernel
theorem dX11_init_95 : decode cX11_init 95 = .ok (.sipush 130, 3) := by decide +kernel
theorem dX11_init_98 : decode cX11_init 98 = .ok (.newarray .int, 2) := by decide +kernel
theorem dX11_init_100 : decode cX11_init 100 = .ok (.putfield 40, 3) := by decide +kernel
theorem dX11_init_103 : decode cX11_init 103 = .ok (.aload_n 0, 1) := by decide +kernel
theorem dX11_init_104 : decode cX11_init 104 = .ok (.sipush 130, 3) := by decide +kernel
theorem dX11_init_107 : decode cX11_init 107 = .ok (.newarray .int, 2) := by decide +kernel
theorem dX11_init_109 : decode cX11_init 109 = .ok (.putfield 43, 3) := by decide +kernel
theorem dX11_init_112 : decode cX11_init 112 = .ok (.aload_n 0, 1) := by decide +kernel
theorem dX11_init_113 : decode cX11_init 113 = .ok (.sipush 130, 3) := by decide +kernel
theorem dX11_init_116 : decode cX11_init 116 = .ok (.newarray .int, 2) := by decide +kernel
theorem dX11_init_118 : decode cX11_init 118 = .ok (.putfield 46, 3) := by decide +kernel
theorem dX11_init_121 : decode cX11_init 121 = .ok (.aload_n 0, 1) := by decide +kernel
theorem dX11_init_122 : decode cX11_init 122 = .ok (.sipush 130, 3) := by decide +kernel
theorem dX11_init_125 : decode cX11_init 125 = .ok (.newarray .long, 2) := by decide +kernel
theorem dX11_init_127 : decode cX11_init 127 = .ok (.putfield 49, 3) := by decide +kernel
theorem dX11_init_130 : decode cX11_init 130 = .ok (.aload_n 0, 1) := by decide +kernel
theorem dX11_init_131 : decode cX11_init 131 = .ok (.sipush 300, 3) := by decide +kernel
theorem dX11_init_134 : decode cX11_init 134 = .ok (.newarray .int, 2) := by decide +kernel
theorem dX11_init_136 : decode cX11_init 136 = .ok (.putfield 53, 3) := by decide +kernel
theorem dX11_init_139 : decode cX11_init 139 = .ok (.aload_n 0, 1) := by decide +kernel
theorem dX11_init_140 : decode cX11_init 140 = .ok (.sipush 300, 3) := by decide +kernel
theorem dX11_init_143 : decode cX11_init 143 = .ok (.newarray .long, 2) := by decide +kernel
theorem dX11_init_145 : decode cX11_init 145 = .ok (.putfield 56, 3) := by decide +kernel
theorem dX11_init_148 : decode cX11_init 148 = .ok (.aload_n 0, 1) := by decide +kernel
theorem dX11_init_149 : decode cX11_init 149 = .ok (.sipush 300, 3) := by decide +kernel
theorem dX11_init_152 : decode cX11_init 152 = .ok (.newarray .int, 2) := by decide +kernel
theorem dX11_init_154 : decode cX11_init 154 = .ok (.putfield 59, 3) := by decide +kernel
theorem dX11_init_157 : decode cX11_init 157 = .ok (.aload_n 0, 1) := by decide +kernel
theorem dX11_init_158 : decode cX11_init 158 = .ok (.sipush 300, 3) := by decide +kernel
theorem dX11_init_161 : decode cX11_init 161 = .ok (.newarray .int, 2) := by decide +kernel
theorem dX11_init_163 : decode cX11_init 163 = .ok (.putfield 62, 3) := by decide +kernel
theorem dX11_init_166 : decode cX11_init 166 = .ok (.aload_n 0, 1) := by decide +kernel
theorem dX11_init_167 : decode cX11_init 167 = .ok (.sipush 500, 3) := by decide +kernel
theorem dX11_init_170 : decode cX11_init 170 = .ok (.newarray .int, 2) := by decide +kernel
theorem dX11_init_172 : decode cX11_init 172 = .ok (.putfield 65, 3) := by decide +kernel
theorem dX11_init_175 : decode cX11_init 175 = .ok (.aload_n 0, 1) := by decide +kernel
theorem dX11_init_176 : decode cX11_init 176 = .ok (.sipush 500, 3) := by decide +kernel
theorem dX11_init_179 : decode cX11_init 179 = .ok (.newarray .int, 2) := by decide +kernel
theorem dX11_init_181 : decode cX11_init 181 = .ok (.putfield 68, 3) := by decide +kernel
theorem dX11_init_184 : decode cX11_init 184 = .ok (.aload_n 0, 1) := by decide +kernel
theorem dX11_init_185 : decode cX11_init 185 = .ok (.sipush 500, 3) := by decide +kernel
theorem dX11_init_188 : decode cX11_init 188 = .ok (.newarray .int, 2) := by decide +kernel
theorem dX11_init_190 : decode cX11_init 190 = .ok (.putfield 71, 3) := by decide +kernel
theorem dX11_init_193 : decode cX11_init 193 = .ok (.aload_n 0, 1) := by decide +kernel
theorem dX11_init_194 : decode cX11_init 194 = .ok (.iconst 4, 1) := by decide +kernel
theorem dX11_init_195 : decode cX11_init 195 = .ok (.newarray .int, 2) := by decide +kernel
theorem dX11_init_197 : decode cX11_init 197 = .ok (.putfield 74, 3) := by decide +kernel
theorem dX11_init_200 : decode cX11_init 200 = .ok (.aload_n 0, 1) := by decide +kernel
theorem dX11_init_201 : decode cX11_init 201 = .ok (.iconst 4, 1) := by decide +kernel
theorem dX11_init_202 : decode cX11_init 202 = .ok (.newarray .int, 2) := by decide +kernel
theorem dX11_init_204 : decode cX11_init 204 = .ok (.putfield 77, 3) := by decide +kernel
theorem dX11_init_207 : decode cX11_init 207 = .ok (.aload_n 0, 1) := by decide +kernel
theorem dX11_init_208 : decode cX11_init 208 = .ok (.bipush 64, 2) := by decide +kernel
theorem dX11_init_210 : decode cX11_init 210 = .ok (.newarray .int, 2) := by decide +kernel
theorem dX11_init_212 : decode cX11_init 212 = .ok (.putfield 80, 3) := by decide +kernel
theorem dX11_init_215 : decode cX11_init 215 = .ok (.aload_n 0, 1) := by decide +kernel
theorem dX11_init_216 : decode cX11_init 216 = .ok (.iconst 4, 1) := by decide +kernel
theorem dX11_init_217 : decode cX11_init 217 = .ok (.newarray .int, 2) := by decide +kernel
theorem dX11_init_219 : decode cX11_init 219 = .ok (.putfield 83, 3) := by decide +kernel
theorem dX11_init_222 : decode cX11_init 222 = .ok (.aload_n 0, 1) := by decide +kernel
theorem dX11_init_223 : decode cX11_init 223 = .ok (.iconst 4, 1) := by decide +kernel
theorem dX11_init_224 : decode cX11_init 224 = .ok (.newarray .boolean, 2) := by decide +kernel
theorem dX11_init_226 : decode cX11_init 226 = .ok (.putfield 86, 3) := by decide +kernel
theorem dX11_init_229 : decode cX11_init 229 = .ok (.aload_n 0, 1) := by decide +kernel
theorem dX11_init_230 : decode cX11_init 230 = .ok (.iconst 4, 1) := by decide +kernel
theorem dX11_init_231 : decode cX11_init 231 = .ok (.newarray .boolean, 2) := by decide +kernel
theorem dX11_init_233 : decode cX11_init 233 = .ok (.putfield 90, 3) := by decide +kernel
theorem dX11_init_236 : decode cX11_init 236 = .ok (.aload_n 0, 1) := by decide +kernel
theorem dX11_init_237 : decode cX11_init 237 = .ok (.bipush 17, 2) := by decide +kernel
theorem dX11_init_239 : decode cX11_init 239 = .ok (.newarray .int, 2) := by decide +kernel
theorem dX11_init_241 : decode cX11_init 241 = .ok (.putfield 93, 3) := by decide +kernel
theorem dX11_init_244 : decode cX11_init 244 = .ok (.aload_n 0, 1) := by decide +kernel
theorem dX11_init_245 : decode cX11_init 245 = .ok (.bipush 16, 2) := by decide +kernel
theorem dX11_init_247 : decode cX11_init 247 = .ok (.newarray .int, 2) := by decide +kernel
theorem dX11_init_249 : decode cX11_init 249 = .ok (.putfield 96, 3) := by decide +kernel
theorem dX11_init_252 : decode cX11_init 252 = .ok (.aload_n 0, 1) := by decide +kernel
theorem dX11_init_253 : decode cX11_init 253 = .ok (.bipush 16, 2) := by decide +kernel
theorem dX11_init_255 : decode cX11_init 255 = .ok (.newarray .int, 2) := by decide +kernel
theorem dX11_init_257 : decode cX11_init 257 = .ok (.putfield 99, 3) := by decide +kernel
theorem dX11_init_260 : decode cX11_init 260 = .ok (.aload_n 0, 1) := by decide +kernel
theorem dX11_init_261 : decode cX11_init 261 = .ok (.bipush 9, 2) := by decide +kernel
theorem dX11_init_263 : decode cX11_init 263 = .ok (.newarray .int, 2) := by decide +kernel
theorem dX11_init_265 : decode cX11_init 265 = .ok (.putfield 102, 3) := by decide +kernel
theorem dX11_init_268 : decode cX11_init 268 = .ok (.aload_n 0, 1) := by decide +kernel
theorem dX11_init_269 : decode cX11_init 269 = .ok (.sipush 2001, 3) := by decide +kernel
theorem dX11_init_272 : decode cX11_init 272 = .ok (.newarray .long, 2) := by decide +kernel
theorem dX11_init_274 : decode cX11_init 274 = .ok (.putfield 105, 3) := by decide +kernel
theorem dX11_init_277 : decode cX11_init 277 = .ok (.return_, 1) := by decide +kernel
theorem dX11_in_0 : decode cX11_in 0 = .ok (.lload_n 0, 1) := by decide +kernel
theorem dX11_in_1 : decode cX11_in 1 = .ok (.lload_n 2, 1) := by decide +kernel
theorem dX11_in_2 : decode cX11_in 2 = .ok (.lcmp, 1) := by decide +kernel
theorem dX11_in_3 : decode cX11_in 3 = .ok (.ifCond .lt 14, 3) := by decide +kernel
theorem dX11_in_6 : decode cX11_in 6 = .ok (.lload_n 0, 1) := by decide +kernel
theorem dX11_in_7 : decode cX11_in 7 = .ok (.lload 4, 2) := by decide +kernel
theorem dX11_in_9 : decode cX11_in 9 = .ok (.lcmp, 1) := by decide +kernel
theorem dX11_in_10 : decode cX11_in 10 = .ok (.ifCond .gt 7, 3) := by decide +kernel
theorem dX11_in_13 : decode cX11_in 13 = .ok (.iconst 1, 1) := by decide +kernel
theorem dX11_in_14 : decode cX11_in 14 = .ok (.goto 4, 3) := by decide +kernel
theorem dX11_in_17 : decode cX11_in 17 = .ok (.iconst 0, 1) := by decide +kernel
theorem dX11_in_18 : decode cX11_in 18 = .ok (.ireturn, 1) := by decide +kernel
theorem dX11_isDay_0 : decode cX11_isDay 0 = .ok (.iload_n 0, 1) := by decide +kernel
theorem dX11_isDay_1 : decode cX11_isDay 1 = .ok (.i2l, 1) := by decide +kernel
theorem dX11_isDay_2 : decode cX11_isDay 2 = .ok (.lconst 0, 1) := by decide +kernel
theorem dX11_isDay_3 : decode cX11_isDay 3 = .ok (.ldc2_w 108, 3) := by decide +kernel
theorem dX11_isDay_6 : decode cX11_isDay 6 = .ok (.invokestatic 110, 3) := by decide +kernel
theorem dX11_isDay_9 : decode cX11_isDay 9 = .ok (.ireturn, 1) := by decide +kernel
theorem dX11_now_0 : decode cX11_now 0 = .ok (.iload_n 1, 1) := by decide +kernel
theorem dX11_now_1 : decode cX11_now 1 = .ok (.i2l, 1) := by decide +kernel
theorem dX11_now_2 : decode cX11_now 2 = .ok (.aload_n 0, 1) := by decide +kernel
theorem dX11_now_3 : decode cX11_now 3 = .ok (.getfield 114, 3) := by decide +kernel
theorem dX11_now_6 : decode cX11_now 6 = .ok (.i2l, 1) := by decide +kernel
theorem dX11_now_7 : decode cX11_now 7 = .ok (.ldc2_w 108, 3) := by decide +kernel
theorem dX11_now_10 : decode cX11_now 10 = .ok (.invokestatic 110, 3) := by decide +kernel
theorem dX11_now_13 : decode cX11_now 13 = .ok (.ifCond .ne 6, 3) := by decide +kernel
theorem dX11_now_16 : decode cX11_now 16 = .ok (.bipush (-2), 2) := by decide +kernel
theorem dX11_now_18 : decode cX11_now 18 = .ok (.ireturn, 1) := by decide +kernel
theorem dX11_now_19 : decode cX11_now 19 = .ok (.aload_n 0, 1) := by decide +kernel
theorem dX11_now_20 : decode cX11_now 20 = .ok (.iload_n 1, 1) := by decide +kernel
theorem dX11_now_21 : decode cX11_now 21 = .ok (.putfield 114, 3) := by decide +kernel
theorem dX11_now_24 : decode cX11_now 24 = .ok (.iload_n 1, 1) := by decide +kernel
theorem dX11_now_25 : decode cX11_now 25 = .ok (.ireturn, 1) := by decide +kernel
theorem dX11_figuresOf_0 : decode cX11_figuresOf 0 = .ok (.lload_n 0, 1) := by decide +kernel
theorem dX11_figuresOf_1 : decode cX11_figuresOf 1 = .ok (.lconst 1, 1) := by decide +kernel
theorem dX11_figuresOf_2 : decode cX11_figuresOf 2 = .ok (.lcmp, 1) := by decide +kernel
theorem dX11_figuresOf_3 : decode cX11_figuresOf 3 = .ok (.ifCond .ge 5, 3) := by decide +kernel
theorem dX11_figuresOf_6 : decode cX11_figuresOf 6 = .ok (.iconst (-1), 1) := by decide +kernel
theorem dX11_figuresOf_7 : decode cX11_figuresOf 7 = .ok (.ireturn, 1) := by decide +kernel
theorem dX11_figuresOf_8 : decode cX11_figuresOf 8 = .ok (.iconst 0, 1) := by decide +kernel
theorem dX11_figuresOf_9 : decode cX11_figuresOf 9 = .ok (.istore_n 2, 1) := by decide +kernel
theorem dX11_figuresOf_10 : decode cX11_figuresOf 10 = .ok (.lload_n 0, 1) := by decide +kernel
theorem dX11_figuresOf_11 : decode cX11_figuresOf 11 = .ok (.lstore_n 3, 1) := by decide +kernel
theorem dX11_figuresOf_12 : decode cX11_figuresOf 12 = .ok (.lload_n 3, 1) := by decide +kernel
theorem dX11_figuresOf_13 : decode cX11_figuresOf 13 = .ok (.ldc2_w 118, 3) := by decide +kernel
theorem dX11_figuresOf_16 : decode cX11_figuresOf 16 = .ok (.lcmp, 1) := by decide +kernel
theorem dX11_figuresOf_17 : decode cX11_figuresOf 17 = .ok (.ifCond .le 15, 3) := by decide +kernel
theorem dX11_figuresOf_20 : decode cX11_figuresOf 20 = .ok (.lload_n 3, 1) := by decide +kernel
theorem dX11_figuresOf_21 : decode cX11_figuresOf 21 = .ok (.ldc2_w 120, 3) := by decide +kernel
theorem dX11_figuresOf_24 : decode cX11_figuresOf 24 = .ok (.ldiv, 1) := by decide +kernel
theorem dX11_figuresOf_25 : decode cX11_figuresOf 25 = .ok (.lstore_n 3, 1) := by decide +kernel
theorem dX11_figuresOf_26 : decode cX11_figuresOf 26 = .ok (.iinc 2 1, 3) := by decide +kernel
theorem dX11_figuresOf_29 : decode cX11_figuresOf 29 = .ok (.goto (-17), 3) := by decide +kernel
theorem dX11_figuresOf_32 : decode cX11_figuresOf 32 = .ok (.lload_n 3, 1) := by decide +kernel
theorem dX11_figuresOf_33 : decode cX11_figuresOf 33 = .ok (.lconst 1, 1) := by decide +kernel
theorem dX11_figuresOf_34 : decode cX11_figuresOf 34 = .ok (.lcmp, 1) := by decide +kernel
theorem dX11_figuresOf_35 : decode cX11_figuresOf 35 = .ok (.ifCond .ne 7, 3) := by decide +kernel
theorem dX11_figuresOf_38 : decode cX11_figuresOf 38 = .ok (.iload_n 2, 1) := by decide +kernel
theorem dX11_figuresOf_39 : decode cX11_figuresOf 39 = .ok (.goto 4, 3) := by decide +kernel
theorem dX11_figuresOf_42 : decode cX11_figuresOf 42 = .ok (.iconst (-1), 1) := by decide +kernel
theorem dX11_figuresOf_43 : decode cX11_figuresOf 43 = .ok (.ireturn, 1) := by decide +kernel
theorem dX11_figureAt_0 : decode cX11_figureAt 0 = .ok (.lload_n 0, 1) := by decide +kernel
theorem dX11_figureAt_1 : decode cX11_figureAt 1 = .ok (.lstore_n 3, 1) := by decide +kernel
theorem dX11_figureAt_2 : decode cX11_figureAt 2 = .ok (.lload_n 0, 1) := by decide +kernel
theorem dX11_figureAt_3 : decode cX11_figureAt 3 = .ok (.invokestatic 122, 3) := by decide +kernel
theorem dX11_figureAt_6 : decode cX11_figureAt 6 = .ok (.iconst 1, 1) := by decide +kernel
theorem dX11_figureAt_7 : decode cX11_figureAt 7 = .ok (.isub, 1) := by decide +kernel
theorem dX11_figureAt_8 : decode cX11_figureAt 8 = .ok (.istore 5, 2) := by decide +kernel
theorem dX11_figureAt_10 : decode cX11_figureAt 10 = .ok (.iload 5, 2) := by decide +kernel
theorem dX11_figureAt_12 : decode cX11_figureAt 12 = .ok (.iload_n 2, 1) := by decide +kernel
theorem dX11_figureAt_13 : decode cX11_figureAt 13 = .ok (.if_icmp .le 15, 3) := by decide +kernel
theorem dX11_figureAt_16 : decode cX11_figureAt 16 = .ok (.lload_n 3, 1) := by decide +kernel
theorem dX11_figureAt_17 : decode cX11_figureAt 17 = .ok (.ldc2_w 120, 3) := by decide +kernel
theorem dX11_figureAt_20 : decode cX11_figureAt 20 = .ok (.ldiv, 1) := by decide +kernel
theorem dX11_figureAt_21 : decode cX11_figureAt 21 = .ok (.lstore_n 3, 1) := by decide +kernel
theorem dX11_figureAt_22 : decode cX11_figureAt 22 = .ok (.iinc 5 (-1), 3) := by decide +kernel
theorem dX11_figureAt_25 : decode cX11_figureAt 25 = .ok (.goto (-15), 3) := by decide +kernel
theorem dX11_figureAt_28 : decode cX11_figureAt 28 = .ok (.lload_n 3, 1) := by decide +kernel
theorem dX11_figureAt_29 : decode cX11_figureAt 29 = .ok (.ldc2_w 120, 3) := by decide +kernel
theorem dX11_figureAt_32 : decode cX11_figureAt 32 = .ok (.lrem, 1) := by decide +kernel
theorem dX11_figureAt_33 : decode cX11_figureAt 33 = .ok (.l2i, 1) := by decide +kernel
theorem dX11_figureAt_34 : decode cX11_figureAt 34 = .ok (.ireturn, 1) := by decide +kernel
theorem dX11_lengthOf_0 : decode cX11_lengthOf 0 = .ok (.iload_n 0, 1) := by decide +kernel
theorem dX11_lengthOf_1 : decode cX11_lengthOf 1 = .ok (.i2l, 1) := by decide +kernel
theorem dX11_lengthOf_2 : decode cX11_lengthOf 2 = .ok (.invokestatic 122, 3) := by decide +kernel
theorem dX11_lengthOf_5 : decode cX11_lengthOf 5 = .ok (.ireturn, 1) := by decide +kernel
theorem dX11_put_0 : decode cX11_put 0 = .ok (.aload_n 0, 1) := by decide +kernel
theorem dX11_put_1 : decode cX11_put 1 = .ok (.getfield 7, 3) := by decide +kernel
theorem dX11_put_4 : decode cX11_put 4 = .ok (.iload_n 1, 1) := by decide +kernel
theorem dX11_put_5 : decode cX11_put 5 = .ok (.iload_n 2, 1) := by decide +kernel
theorem dX11_put_6 : decode cX11_put 6 = .ok (.iastore, 1) := by decide +kernel
theorem dX11_put_7 : decode cX11_put 7 = .ok (.aload_n 0, 1) := by decide +kernel
theorem dX11_put_8 : decode cX11_put 8 = .ok (.getfield 13, 3) := by decide +kernel
theorem dX11_put_11 : decode cX11_put 11 = .ok (.iload_n 1, 1) := by decide +kernel
theorem dX11_put_12 : decode cX11_put 12 = .ok (.iload_n 3, 1) := by decide +kernel
theorem dX11_put_13 : decode cX11_put 13 = .ok (.iastore, 1) := by decide +kernel
theorem dX11_put_14 : decode cX11_put 14 = .ok (.aload_n 0, 1) := by decide +kernel
theorem dX11_put_15 : decode cX11_put 15 = .ok (.getfield 16, 3) := by decide +kernel
theorem dX11_put_18 : decode cX11_put 18 = .ok (.iload_n 1, 1) := by decide +kernel
theorem dX11_put_19 : decode cX11_put 19 = .ok (.iload 4, 2) := by decide +kernel
theorem dX11_put_21 : decode cX11_put 21 = .ok (.iastore, 1) := by decide +kernel
theorem dX11_put_22 : decode cX11_put 22 = .ok (.aload_n 0, 1) := by decide +kernel
theorem dX11_put_23 : decode cX11_put 23 = .ok (.getfield 19, 3) := by decide +kernel
theorem dX11_put_26 : decode cX11_put 26 = .ok (.iload_n 1, 1) := by decide +kernel
theorem dX11_put_27 : decode cX11_put 27 = .ok (.iload 5, 2) := by decide +kernel
theorem dX11_put_29 : decode cX11_put 29 = .ok (.iastore, 1) := by decide +kernel
theorem dX11_put_30 : decode cX11_put 30 = .ok (.aload_n 0, 1) := by decide +kernel
theorem dX11_put_31 : decode cX11_put 31 = .ok (.getfield 22, 3) := by decide +kernel
theorem dX11_put_34 : decode cX11_put 34 = .ok (.iload_n 1, 1) := by decide +kernel
theorem dX11_put_35 : decode cX11_put 35 = .ok (.iload 6, 2) := by decide +kernel
theorem dX11_put_37 : decode cX11_put 37 = .ok (.iastore, 1) := by decide +kernel
theorem dX11_put_38 : decode cX11_put 38 = .ok (.aload_n 0, 1) := by decide +kernel
theorem dX11_put_39 : decode cX11_put 39 = .ok (.getfield 25, 3) := by decide +kernel
theorem dX11_put_42 : decode cX11_put 42 = .ok (.iload_n 1, 1) := by decide +kernel
theorem dX11_put_43 : decode cX11_put 43 = .ok (.iload 7, 2) := by decide +kernel
theorem dX11_put_45 : decode cX11_put 45 = .ok (.iastore, 1) := by decide +kernel
theorem dX11_put_46 : decode cX11_put 46 = .ok (.aload_n 0, 1) := by decide +kernel
theorem dX11_put_47 : decode cX11_put 47 = .ok (.getfield 28, 3) := by decide +kernel
theorem dX11_put_50 : decode cX11_put 50 = .ok (.iload_n 1, 1) := by decide +kernel
theorem dX11_put_51 : decode cX11_put 51 = .ok (.iload 8, 2) := by decide +kernel
theorem dX11_put_53 : decode cX11_put 53 = .ok (.iastore, 1) := by decide +kernel
theorem dX11_put_54 : decode cX11_put 54 = .ok (.aload_n 0, 1) := by decide +kernel
theorem dX11_put_55 : decode cX11_put 55 = .ok (.getfield 31, 3) := by decide +kernel
theorem dX11_put_58 : decode cX11_put 58 = .ok (.iload_n 1, 1) := by decide +kernel
theorem dX11_put_59 : decode cX11_put 59 = .ok (.iload 9, 2) := by decide +kernel
theorem dX11_put_61 : decode cX11_put 61 = .ok (.iastore, 1) := by decide +kernel
theorem dX11_put_62 : decode cX11_put 62 = .ok (.aload_n 0, 1) := by decide +kernel
theorem dX11_put_63 : decode cX11_put 63 = .ok (.getfield 34, 3) := by decide +kernel
theorem dX11_put_66 : decode cX11_put 66 = .ok (.iload_n 1, 1) := by decide +kernel
theorem dX11_put_67 : decode cX11_put 67 = .ok (.iconst (-1), 1) := by decide +kernel
theorem dX11_put_68 : decode cX11_put 68 = .ok (.iastore, 1) := by decide +kernel
theorem dX11_put_69 : decode cX11_put 69 = .ok (.aload_n 0, 1) := by decide +kernel
theorem dX11_put_70 : decode cX11_put 70 = .ok (.getfield 37, 3) := by decide +kernel
theorem dX11_put_73 : decode cX11_put 73 = .ok (.iload_n 1, 1) := by decide +kernel
theorem dX11_put_74 : decode cX11_put 74 = .ok (.iconst (-1), 1) := by decide +kernel
theorem dX11_put_75 : decode cX11_put 75 = .ok (.iastore, 1) := by decide +kernel
theorem dX11_put_76 : decode cX11_put 76 = .ok (.aload_n 0, 1) := by decide +kernel
theorem dX11_put_77 : decode cX11_put 77 = .ok (.getfield 40, 3) := by decide +kernel
theorem dX11_put_80 : decode cX11_put 80 = .ok (.iload_n 1, 1) := by decide +kernel
theorem dX11_put_81 : decode cX11_put 81 = .ok (.iconst (-1), 1) := by decide +kernel
theorem dX11_put_82 : decode cX11_put 82 = .ok (.iastore, 1) := by decide +kernel
theorem dX11_put_83 : decode cX11_put 83 = .ok (.aload_n 0, 1) := by decide +kernel
theorem dX11_put_84 : decode cX11_put 84 = .ok (.getfield 43, 3) := by decide +kernel
theorem dX11_put_87 : decode cX11_put 87 = .ok (.iload_n 1, 1) := by decide +kernel
theorem dX11_put_88 : decode cX11_put 88 = .ok (.iconst 0, 1) := by decide +kernel
theorem dX11_put_89 : decode cX11_put 89 = .ok (.iastore, 1) := by decide +kernel
theorem dX11_put_90 : decode cX11_put 90 = .ok (.aload_n 0, 1) := by decide +kernel
theorem dX11_put_91 : decode cX11_put 91 = .ok (.getfield 46, 3) := by decide +kernel
theorem dX11_put_94 : decode cX11_put 94 = .ok (.iload_n 1, 1) := by decide +kernel
theorem dX11_put_95 : decode cX11_put 95 = .ok (.iconst (-1), 1) := by decide +kernel
theorem dX11_put_96 : decode cX11_put 96 = .ok (.iastore, 1) := by decide +kernel
theorem dX11_put_97 : decode cX11_put 97 = .ok (.aload_n 0, 1) := by decide +kernel
theorem dX11_put_98 : decode cX11_put 98 = .ok (.getfield 49, 3) := by decide +kernel
theorem dX11_put_101 : decode cX11_put 101 = .ok (.iload_n 1, 1) := by decide +kernel
theorem dX11_put_102 : decode cX11_put 102 = .ok (.iload_n 2, 1) := by decide +kernel
theorem dX11_put_103 : decode cX11_put 103 = .ok (.ifCond .ne 11, 3) := by decide +kernel
theorem dX11_put_106 : decode cX11_put 106 = .ok (.aload_n 0, 1) := by decide +kernel
theorem dX11_put_107 : decode cX11_put 107 = .ok (.iload_n 1, 1) := by decide +kernel
theorem dX11_put_108 : decode cX11_put 108 = .ok (.invokevirtual 126, 3) := by decide +kernel
theorem dX11_put_111 : decode cX11_put 111 = .ok (.goto 4, 3) := by decide +kernel
theorem dX11_put_114 : decode cX11_put 114 = .ok (.lconst 0, 1) := by decide +kernel
theorem dX11_put_115 : decode cX11_put 115 = .ok (.lastore, 1) := by decide +kernel
theorem dX11_put_116 : decode cX11_put 116 = .ok (.iload_n 1, 1) := by decide +kernel
theorem dX11_put_117 : decode cX11_put 117 = .ok (.ireturn, 1) := by decide +kernel
theorem dX11_add_0 : decode cX11_add 0 = .ok (.aload_n 0, 1) := by decide +kernel
theorem dX11_add_1 : decode cX11_add 1 = .ok (.aload_n 0, 1) := by decide +kernel
theorem dX11_add_2 : decode cX11_add 2 = .ok (.getfield 130, 3) := by decide +kernel
theorem dX11_add_5 : decode cX11_add 5 = .ok (.iload_n 1, 1) := by decide +kernel
theorem dX11_add_6 : decode cX11_add 6 = .ok (.iload_n 2, 1) := by decide +kernel
theorem dX11_add_7 : decode cX11_add 7 = .ok (.iload_n 3, 1) := by decide +kernel
theorem dX11_add_8 : decode cX11_add 8 = .ok (.iload 4, 2) := by decide +kernel
theorem dX11_add_10 : decode cX11_add 10 = .ok (.iload 5, 2) := by decide +kernel
theorem dX11_add_12 : decode cX11_add 12 = .ok (.iload 6, 2) := by decide +kernel
theorem dX11_add_14 : decode cX11_add 14 = .ok (.iload 7, 2) := by decide +kernel
theorem dX11_add_16 : decode cX11_add 16 = .ok (.iload 8, 2) := by decide +kernel
theorem dX11_add_18 : decode cX11_add 18 = .ok (.invokevirtual 133, 3) := by decide +kernel
theorem dX11_add_21 : decode cX11_add 21 = .ok (.istore 10, 2) := by decide +kernel
theorem dX11_add_23 : decode cX11_add 23 = .ok (.aload_n 0, 1) := by decide +kernel
theorem dX11_add_24 : decode cX11_add 24 = .ok (.getfield 34, 3) := by decide +kernel
theorem dX11_add_27 : decode cX11_add 27 = .ok (.iload 10, 2) := by decide +kernel
theorem dX11_add_29 : decode cX11_add 29 = .ok (.iload 9, 2) := by decide +kernel
theorem dX11_add_31 : decode cX11_add 31 = .ok (.iastore, 1) := by decide +kernel
theorem dX11_add_32 : decode cX11_add 32 = .ok (.aload_n 0, 1) := by decide +kernel
theorem dX11_add_33 : decode cX11_add 33 = .ok (.dup, 1) := by decide +kernel
theorem dX11_add_34 : decode cX11_add 34 = .ok (.getfield 130, 3) := by decide +kernel
theorem dX11_add_37 : decode cX11_add 37 = .ok (.iconst 1, 1) := by decide +kernel
theorem dX11_add_38 : decode cX11_add 38 = .ok (.iadd, 1) := by decide +kernel
theorem dX11_add_39 : decode cX11_add 39 = .ok (.putfield 130, 3) := by decide +kernel
theorem dX11_add_42 : decode cX11_add 42 = .ok (.iload 10, 2) := by decide +kernel
theorem dX11_add_44 : decode cX11_add 44 = .ok (.ireturn, 1) := by decide +kernel
theorem dX11_isFree_0 : decode cX11_isFree 0 = .ok (.iload_n 1, 1) := by decide +kernel
theorem dX11_isFree_1 : decode cX11_isFree 1 = .ok (.i2l, 1) := by decide +kernel
theorem dX11_isFree_2 : decode cX11_isFree 2 = .ok (.aload_n 0, 1) := by decide +kernel
theorem dX11_isFree_3 : decode cX11_isFree 3 = .ok (.getfield 114, 3) := by decide +kernel
theorem dX11_isFree_6 : decode cX11_isFree 6 = .ok (.i2l, 1) := by decide +kernel
theorem dX11_isFree_7 : decode cX11_isFree 7 = .ok (.ldc2_w 108, 3) := by decide +kernel
theorem dX11_isFree_10 : decode cX11_isFree 10 = .ok (.invokestatic 110, 3) := by decide +kernel
theorem dX11_isFree_13 : decode cX11_isFree 13 = .ok (.ireturn, 1) := by decide +kernel
theorem dX11_mayBlock_0 : decode cX11_mayBlock 0 = .ok (.iload_n 1, 1) := by decide +kernel
theorem dX11_mayBlock_1 : decode cX11_mayBlock 1 = .ok (.i2l, 1) := by decide +kernel
theorem dX11_mayBlock_2 : decode cX11_mayBlock 2 = .ok (.lconst 0, 1) := by decide +kernel
theorem dX11_mayBlock_3 : decode cX11_mayBlock 3 = .ok (.ldc2_w 137, 3) := by decide +kernel
theorem dX11_mayBlock_6 : decode cX11_mayBlock 6 = .ok (.invokestatic 110, 3) := by decide +kernel
theorem dX11_mayBlock_9 : decode cX11_mayBlock 9 = .ok (.ifCond .eq 62, 3) := by decide +kernel
theorem dX11_mayBlock_12 : decode cX11_mayBlock 12 = .ok (.iload_n 2, 1) := by decide +kernel
theorem dX11_mayBlock_13 : decode cX11_mayBlock 13 = .ok (.invokestatic 139, 3) := by decide +kernel
theorem dX11_mayBlock_16 : decode cX11_mayBlock 16 = .ok (.i2l, 1) := by decide +kernel
theorem dX11_mayBlock_17 : decode cX11_mayBlock 17 = .ok (.lconst 1, 1) := by decide +kernel
theorem dX11_mayBlock_18 : decode cX11_mayBlock 18 = .ok (.ldc2_w 143, 3) := by decide +kernel
theorem dX11_mayBlock_21 : decode cX11_mayBlock 21 = .ok (.invokestatic 110, 3) := by decide +kernel
theorem dX11_mayBlock_24 : decode cX11_mayBlock 24 = .ok (.ifCond .eq 47, 3) := by decide +kernel
theorem dX11_mayBlock_27 : decode cX11_mayBlock 27 = .ok (.iload_n 3, 1) := by decide +kernel
theorem dX11_mayBlock_28 : decode cX11_mayBlock 28 = .ok (.i2l, 1) := by decide +kernel
theorem dX11_mayBlock_29 : decode cX11_mayBlock 29 = .ok (.lconst 1, 1) := by decide +kernel
theorem dX11_mayBlock_30 : decode cX11_mayBlock 30 = .ok (.ldc2_w 145, 3) := by decide +kernel
theorem dX11_mayBlock_33 : decode cX11_mayBlock 33 = .ok (.invokestatic 110, 3) := by decide +kernel
theorem dX11_mayBlock_36 : decode cX11_mayBlock 36 = .ok (.ifCond .eq 35, 3) := by decide +kernel
theorem dX11_mayBlock_39 : decode cX11_mayBlock 39 = .ok (.iload 4, 2) := by decide +kernel
theorem dX11_mayBlock_41 : decode cX11_mayBlock 41 = .ok (.i2l, 1) := by decide +kernel
theorem dX11_mayBlock_42 : decode cX11_mayBlock 42 = .ok (.iload_n 2, 1) := by decide +kernel
theorem dX11_mayBlock_43 : decode cX11_mayBlock 43 = .ok (.invokestatic 139, 3) := by decide +kernel
theorem dX11_mayBlock_46 : decode cX11_mayBlock 46 = .ok (.iconst 1, 1) := by decide +kernel
theorem dX11_mayBlock_47 : decode cX11_mayBlock 47 = .ok (.iadd, 1) := by decide +kernel
theorem dX11_mayBlock_48 : decode cX11_mayBlock 48 = .ok (.i2l, 1) := by decide +kernel
theorem dX11_mayBlock_49 : decode cX11_mayBlock 49 = .ok (.ldc2_w 147, 3) := by decide +kernel
theorem dX11_mayBlock_52 : decode cX11_mayBlock 52 = .ok (.invokestatic 110, 3) := by decide +kernel
theorem dX11_mayBlock_55 : decode cX11_mayBlock 55 = .ok (.ifCond .eq 16, 3) := by decide +kernel
theorem dX11_mayBlock_58 : decode cX11_mayBlock 58 = .ok (.aload_n 0, 1) := by decide +kernel
theorem dX11_mayBlock_59 : decode cX11_mayBlock 59 = .ok (.iload 5, 2) := by decide +kernel
theorem dX11_mayBlock_61 : decode cX11_mayBlock 61 = .ok (.invokevirtual 149, 3) := by decide +kernel
theorem dX11_mayBlock_64 : decode cX11_mayBlock 64 = .ok (.ifCond .eq 7, 3) := by decide +kernel
theorem dX11_mayBlock_67 : decode cX11_mayBlock 67 = .ok (.iconst 1, 1) := by decide +kernel
theorem dX11_mayBlock_68 : decode cX11_mayBlock 68 = .ok (.goto 4, 3) := by decide +kernel
theorem dX11_mayBlock_71 : decode cX11_mayBlock 71 = .ok (.iconst 0, 1) := by decide +kernel
theorem dX11_mayBlock_72 : decode cX11_mayBlock 72 = .ok (.ireturn, 1) := by decide +kernel
theorem dX11_block_0 : decode cX11_block 0 = .ok (.aload_n 0, 1) := by decide +kernel
theorem dX11_block_1 : decode cX11_block 1 = .ok (.iload_n 1, 1) := by decide +kernel
theorem dX11_block_2 : decode cX11_block 2 = .ok (.iload_n 2, 1) := by decide +kernel
theorem dX11_block_3 : decode cX11_block 3 = .ok (.iload_n 3, 1) := by decide +kernel
theorem dX11_block_4 : decode cX11_block 4 = .ok (.iload 4, 2) := by decide +kernel
theorem dX11_block_6 : decode cX11_block 6 = .ok (.iload 5, 2) := by decide +kernel
theorem dX11_block_8 : decode cX11_block 8 = .ok (.invokevirtual 153, 3) := by decide +kernel
theorem dX11_block_11 : decode cX11_block 11 = .ok (.ifCond .ne 6, 3) := by decide +kernel
theorem dX11_block_14 : decode cX11_block 14 = .ok (.bipush (-2), 2) := by decide +kernel
theorem dX11_block_16 : decode cX11_block 16 = .ok (.ireturn, 1) := by decide +kernel
theorem dX11_block_17 : decode cX11_block 17 = .ok (.aload_n 0, 1) := by decide +kernel
theorem dX11_block_18 : decode cX11_block 18 = .ok (.getfield 130, 3) := by decide +kernel
theorem dX11_block_21 : decode cX11_block 21 = .ok (.bipush 120, 2) := by decide +kernel
theorem dX11_block_23 : decode cX11_block 23 = .ok (.if_icmp .ne 8, 3) := by decide +kernel
theorem dX11_block_26 : decode cX11_block 26 = .ok (.bipush (-3), 2) := by decide +kernel
theorem dX11_block_28 : decode cX11_block 28 = .ok (.goto 19, 3) := by decide +kernel
theorem dX11_block_31 : decode cX11_block 31 = .ok (.aload_n 0, 1) := by decide +kernel
theorem dX11_block_32 : decode cX11_block 32 = .ok (.iconst 0, 1) := by decide +kernel
theorem dX11_block_33 : decode cX11_block 33 = .ok (.iload_n 1, 1) := by decide +kernel
theorem dX11_block_34 : decode cX11_block 34 = .ok (.iload_n 2, 1) := by decide +kernel
theorem dX11_block_35 : decode cX11_block 35 = .ok (.iload_n 3, 1) := by decide +kernel
theorem dX11_block_36 : decode cX11_block 36 = .ok (.iload 4, 2) := by decide +kernel
theorem dX11_block_38 : decode cX11_block 38 = .ok (.iload 4, 2) := by decide +kernel
theorem dX11_block_40 : decode cX11_block 40 = .ok (.iload 5, 2) := by decide +kernel
theorem dX11_block_42 : decode cX11_block 42 = .ok (.iconst (-1), 1) := by decide +kernel
theorem dX11_block_43 : decode cX11_block 43 = .ok (.iconst (-1), 1) := by decide +kernel
theorem dX11_block_44 : decode cX11_block 44 = .ok (.invokevirtual 157, 3) := by decide +kernel
theorem dX11_block_47 : decode cX11_block 47 = .ok (.ireturn, 1) := by decide +kernel
theorem dX11_service_0 : decode cX11_service 0 = .ok (.iload_n 1, 1) := by decide +kernel
theorem dX11_service_1 : decode cX11_service 1 = .ok (.invokestatic 139, 3) := by decide +kernel
theorem dX11_service_4 : decode cX11_service 4 = .ok (.istore 4, 2) := by decide +kernel
theorem dX11_service_6 : decode cX11_service 6 = .ok (.iload 4, 2) := by decide +kernel
theorem dX11_service_8 : decode cX11_service 8 = .ok (.i2l, 1) := by decide +kernel
theorem dX11_service_9 : decode cX11_service 9 = .ok (.ldc2_w 160, 3) := by decide +kernel
theorem dX11_service_12 : decode cX11_service 12 = .ok (.ldc2_w 143, 3) := by decide +kernel
theorem dX11_service_15 : decode cX11_service 15 = .ok (.invokestatic 110, 3) := by decide +kernel
theorem dX11_service_18 : decode cX11_service 18 = .ok (.ifCond .eq 23, 3) := by decide +kernel
theorem dX11_service_21 : decode cX11_service 21 = .ok (.iload_n 2, 1) := by decide +kernel
theorem dX11_service_22 : decode cX11_service 22 = .ok (.i2l, 1) := by decide +kernel
theorem dX11_service_23 : decode cX11_service 23 = .ok (.lconst 0, 1) := by decide +kernel
theorem dX11_service_24 : decode cX11_service 24 = .ok (.ldc2_w 162, 3) := by decide +kernel
theorem dX11_service_27 : decode cX11_service 27 = .ok (.invokestatic 110, 3) := by decide +kernel
theorem dX11_service_30 : decode cX11_service 30 = .ok (.ifCond .eq 11, 3) := by decide +kernel
theorem dX11_service_33 : decode cX11_service 33 = .ok (.aload_n 0, 1) := by decide +kernel
theorem dX11_service_34 : decode cX11_service 34 = .ok (.iload_n 3, 1) := by decide +kernel
theorem dX11_service_35 : decode cX11_service 35 = .ok (.invokevirtual 149, 3) := by decide +kernel
theorem dX11_service_38 : decode cX11_service 38 = .ok (.ifCond .ne 6, 3) := by decide +kernel
theorem dX11_service_41 : decode cX11_service 41 = .ok (.bipush (-2), 2) := by decide +kernel
theorem dX11_service_43 : decode cX11_service 43 = .ok (.ireturn, 1) := by decide +kernel
theorem dX11_service_44 : decode cX11_service 44 = .ok (.aload_n 0, 1) := by decide +kernel
theorem dX11_service_45 : decode cX11_service 45 = .ok (.getfield 130, 3) := by decide +kernel
theorem dX11_service_48 : decode cX11_service 48 = .ok (.bipush 120, 2) := by decide +kernel
theorem dX11_service_50 : decode cX11_service 50 = .ok (.if_icmp .ne 8, 3) := by decide +kernel
theorem dX11_service_53 : decode cX11_service 53 = .ok (.bipush (-3), 2) := by decide +kernel
theorem dX11_service_55 : decode cX11_service 55 = .ok (.goto 18, 3) := by decide +kernel
theorem dX11_service_58 : decode cX11_service 58 = .ok (.aload_n 0, 1) := by decide +kernel
theorem dX11_service_59 : decode cX11_service 59 = .ok (.iconst 1, 1) := by decide +kernel
theorem dX11_service_60 : decode cX11_service 60 = .ok (.iload_n 2, 1) := by decide +kernel
theorem dX11_service_61 : decode cX11_service 61 = .ok (.iload_n 1, 1) := by decide +kernel
theorem dX11_service_62 : decode cX11_service 62 = .ok (.iconst 0, 1) := by decide +kernel
theorem dX11_service_63 : decode cX11_service 63 = .ok (.iload 4, 2) := by decide +kernel
theorem dX11_service_65 : decode cX11_service 65 = .ok (.iload 4, 2) := by decide +kernel
theorem dX11_service_67 : decode cX11_service 67 = .ok (.iload_n 3, 1) := by decide +kernel
theorem dX11_service_68 : decode cX11_service 68 = .ok (.iconst (-1), 1) := by decide +kernel
theorem dX11_service_69 : decode cX11_service 69 = .ok (.iconst (-1), 1) := by decide +kernel
theorem dX11_service_70 : decode cX11_service 70 = .ok (.invokevirtual 157, 3) := by decide +kernel
theorem dX11_service_73 : decode cX11_service 73 = .ok (.ireturn, 1) := by decide +kernel
theorem dX11_foreign_0 : decode cX11_foreign 0 = .ok (.iload_n 1, 1) := by decide +kernel
theorem dX11_foreign_1 : decode cX11_foreign 1 = .ok (.invokestatic 139, 3) := by decide +kernel
theorem dX11_foreign_4 : decode cX11_foreign 4 = .ok (.istore 5, 2) := by decide +kernel
theorem dX11_foreign_6 : decode cX11_foreign 6 = .ok (.iload 5, 2) := by decide +kernel
theorem dX11_foreign_8 : decode cX11_foreign 8 = .ok (.i2l, 1) := by decide +kernel
theorem dX11_foreign_9 : decode cX11_foreign 9 = .ok (.lconst 1, 1) := by decide +kernel
theorem dX11_foreign_10 : decode cX11_foreign 10 = .ok (.ldc2_w 164, 3) := by decide +kernel
theorem dX11_foreign_13 : decode cX11_foreign 13 = .ok (.invokestatic 110, 3) := by decide +kernel
theorem dX11_foreign_16 : decode cX11_foreign 16 = .ok (.ifCond .eq 41, 3) := by decide +kernel
theorem dX11_foreign_19 : decode cX11_foreign 19 = .ok (.iload_n 2, 1) := by decide +kernel
theorem dX11_foreign_20 : decode cX11_foreign 20 = .ok (.i2l, 1) := by decide +kernel
theorem dX11_foreign_21 : decode cX11_foreign 21 = .ok (.iload 5, 2) := by decide +kernel
theorem dX11_foreign_23 : decode cX11_foreign 23 = .ok (.iconst 1, 1) := by decide +kernel
theorem dX11_foreign_24 : decode cX11_foreign 24 = .ok (.iadd, 1) := by decide +kernel
theorem dX11_foreign_25 : decode cX11_foreign 25 = .ok (.i2l, 1) := by decide +kernel
theorem dX11_foreign_26 : decode cX11_foreign 26 = .ok (.ldc2_w 137, 3) := by decide +kernel
theorem dX11_foreign_29 : decode cX11_foreign 29 = .ok (.invokestatic 110, 3) := by decide +kernel
theorem dX11_foreign_32 : decode cX11_foreign 32 = .ok (.ifCond .eq 25, 3) := by decide +kernel
theorem dX11_foreign_35 : decode cX11_foreign 35 = .ok (.iload_n 3, 1) := by decide +kernel
theorem dX11_foreign_36 : decode cX11_foreign 36 = .ok (.i2l, 1) := by decide +kernel
theorem dX11_foreign_37 : decode cX11_foreign 37 = .ok (.iload_n 2, 1) := by decide +kernel
theorem dX11_foreign_38 : decode cX11_foreign 38 = .ok (.i2l, 1) := by decide +kernel
theorem dX11_foreign_39 : decode cX11_foreign 39 = .ok (.ldc2_w 137, 3) := by decide +kernel
theorem dX11_foreign_42 : decode cX11_foreign 42 = .ok (.invokestatic 110, 3) := by decide +kernel
theorem dX11_foreign_45 : decode cX11_foreign 45 = .ok (.ifCond .eq 12, 3) := by decide +kernel
theorem dX11_foreign_48 : decode cX11_foreign 48 = .ok (.aload_n 0, 1) := by decide +kernel
theorem dX11_foreign_49 : decode cX11_foreign 49 = .ok (.iload 4, 2) := by decide +kernel
theorem dX11_foreign_51 : decode cX11_foreign 51 = .ok (.invokevirtual 149, 3) := by decide +kernel
theorem dX11_foreign_54 : decode cX11_foreign 54 = .ok (.ifCond .ne 6, 3) := by decide +kernel
theorem dX11_foreign_57 : decode cX11_foreign 57 = .ok (.bipush (-2), 2) := by decide +kernel
theorem dX11_foreign_59 : decode cX11_foreign 59 = .ok (.ireturn, 1) := by decide +kernel
theorem dX11_foreign_60 : decode cX11_foreign 60 = .ok (.aload_n 0, 1) := by decide +kernel
theorem dX11_foreign_61 : decode cX11_foreign 61 = .ok (.getfield 130, 3) := by decide +kernel
theorem dX11_foreign_64 : decode cX11_foreign 64 = .ok (.bipush 120, 2) := by decide +kernel
theorem dX11_foreign_66 : decode cX11_foreign 66 = .ok (.if_icmp .ne 8, 3) := by decide +kernel
theorem dX11_foreign_69 : decode cX11_foreign 69 = .ok (.bipush (-3), 2) := by decide +kernel
theorem dX11_foreign_71 : decode cX11_foreign 71 = .ok (.goto 17, 3) := by decide +kernel
theorem dX11_foreign_74 : decode cX11_foreign 74 = .ok (.aload_n 0, 1) := by decide +kernel
theorem dX11_foreign_75 : decode cX11_foreign 75 = .ok (.iconst 2, 1) := by decide +kernel
theorem dX11_foreign_76 : decode cX11_foreign 76 = .ok (.iconst (-1), 1) := by decide +kernel
theorem dX11_foreign_77 : decode cX11_foreign 77 = .ok (.iload_n 1, 1) := by decide +kernel
theorem dX11_foreign_78 : decode cX11_foreign 78 = .ok (.iconst 0, 1) := by decide +kernel
theorem dX11_foreign_79 : decode cX11_foreign 79 = .ok (.iload_n 2, 1) := by decide +kernel
theorem dX11_foreign_80 : decode cX11_foreign 80 = .ok (.iload_n 3, 1) := by decide +kernel
theorem dX11_foreign_81 : decode cX11_foreign 81 = .ok (.iload 4, 2) := by decide +kernel
theorem dX11_foreign_83 : decode cX11_foreign 83 = .ok (.iconst (-1), 1) := by decide +kernel
theorem dX11_foreign_84 : decode cX11_foreign 84 = .ok (.iconst (-1), 1) := by decide +kernel
theorem dX11_foreign_85 : decode cX11_foreign 85 = .ok (.invokevirtual 157, 3) := by decide +kernel
theorem dX11_foreign_88 : decode cX11_foreign 88 = .ok (.ireturn, 1) := by decide +kernel
theorem dX11_isEntry_0 : decode cX11_isEntry 0 = .ok (.iload_n 1, 1) := by decide +kernel
theorem dX11_isEntry_1 : decode cX11_isEntry 1 = .ok (.i2l, 1) := by decide +kernel
theorem dX11_isEntry_2 : decode cX11_isEntry 2 = .ok (.lconst 0, 1) := by decide +kernel
theorem dX11_isEntry_3 : decode cX11_isEntry 3 = .ok (.aload_n 0, 1) := by decide +kernel
theorem dX11_isEntry_4 : decode cX11_isEntry 4 = .ok (.getfield 130, 3) := by decide +kernel
theorem dX11_isEntry_7 : decode cX11_isEntry 7 = .ok (.iconst 1, 1) := by decide +kernel
theorem dX11_isEntry_8 : decode cX11_isEntry 8 = .ok (.isub, 1) := by decide +kernel
theorem dX11_isEntry_9 : decode cX11_isEntry 9 = .ok (.i2l, 1) := by decide +kernel
theorem dX11_isEntry_10 : decode cX11_isEntry 10 = .ok (.invokestatic 110, 3) := by decide +kernel
theorem dX11_isEntry_13 : decode cX11_isEntry 13 = .ok (.ireturn, 1) := by decide +kernel
theorem dX11_isForce_0 : decode cX11_isForce 0 = .ok (.iload_n 2, 1) := by decide +kernel
theorem dX11_isForce_1 : decode cX11_isForce 1 = .ok (.aload_n 0, 1) := by decide +kernel
theorem dX11_isForce_2 : decode cX11_isForce 2 = .ok (.getfield 28, 3) := by decide +kernel
theorem dX11_isForce_5 : decode cX11_isForce 5 = .ok (.iload_n 1, 1) := by decide +kernel
theorem dX11_isForce_6 : decode cX11_isForce 6 = .ok (.iaload, 1) := by decide +kernel
theorem dX11_isForce_7 : decode cX11_isForce 7 = .ok (.if_icmp .lt 27, 3) := by decide +kernel
theorem dX11_isForce_10 : decode cX11_isForce 10 = .ok (.aload_n 0, 1) := by decide +kernel
theorem dX11_isForce_11 : decode cX11_isForce 11 = .ok (.getfield 31, 3) := by decide +kernel
theorem dX11_isForce_14 : decode cX11_isForce 14 = .ok (.iload_n 1, 1) := by decide +kernel
theorem dX11_isForce_15 : decode cX11_isForce 15 = .ok (.iaload, 1) := by decide +kernel
theorem dX11_isForce_16 : decode cX11_isForce 16 = .ok (.iconst (-1), 1) := by decide +kernel
theorem dX11_isForce_17 : decode cX11_isForce 17 = .ok (.if_icmp .eq 13, 3) := by decide +kernel
theorem dX11_isForce_20 : decode cX11_isForce 20 = .ok (.iload_n 2, 1) := by decide +kernel
theorem dX11_isForce_21 : decode cX11_isForce 21 = .ok (.aload_n 0, 1) := by decide +kernel
theorem dX11_isForce_22 : decode cX11_isForce 22 = .ok (.getfield 31, 3) := by decide +kernel
theorem dX11_isForce_25 : decode cX11_isForce 25 = .ok (.iload_n 1, 1) := by decide +kernel
theorem dX11_isForce_26 : decode cX11_isForce 26 = .ok (.iaload, 1) := by decide +kernel
theorem dX11_isForce_27 : decode cX11_isForce 27 = .ok (.if_icmp .ge 7, 3) := by decide +kernel
theorem dX11_isForce_30 : decode cX11_isForce 30 = .ok (.iconst 1, 1) := by decide +kernel
theorem dX11_isForce_31 : decode cX11_isForce 31 = .ok (.goto 4, 3) := by decide +kernel
theorem dX11_isForce_34 : decode cX11_isForce 34 = .ok (.iconst 0, 1) := by decide +kernel
theorem dX11_isForce_35 : decode cX11_isForce 35 = .ok (.ireturn, 1) := by decide +kernel
theorem dX11_mayEnd_0 : decode cX11_mayEnd 0 = .ok (.aload_n 0, 1) := by decide +kernel
theorem dX11_mayEnd_1 : decode cX11_mayEnd 1 = .ok (.iload_n 2, 1) := by decide +kernel
theorem dX11_mayEnd_2 : decode cX11_mayEnd 2 = .ok (.invokevirtual 149, 3) := by decide +kernel
theorem dX11_mayEnd_5 : decode cX11_mayEnd 5 = .ok (.ifCond .eq 37, 3) := by decide +kernel
theorem dX11_mayEnd_8 : decode cX11_mayEnd 8 = .ok (.iload_n 2, 1) := by decide +kernel
theorem dX11_mayEnd_9 : decode cX11_mayEnd 9 = .ok (.aload_n 0, 1) := by decide +kernel
theorem dX11_mayEnd_10 : decode cX11_mayEnd 10 = .ok (.getfield 28, 3) := by decide +kernel
theorem dX11_mayEnd_13 : decode cX11_mayEnd 13 = .ok (.iload_n 1, 1) := by decide +kernel
theorem dX11_mayEnd_14 : decode cX11_mayEnd 14 = .ok (.iaload, 1) := by decide +kernel
theorem dX11_mayEnd_15 : decode cX11_mayEnd 15 = .ok (.if_icmp .le 27, 3) := by decide +kernel
theorem dX11_mayEnd_18 : decode cX11_mayEnd 18 = .ok (.aload_n 0, 1) := by decide +kernel
theorem dX11_mayEnd_19 : decode cX11_mayEnd 19 = .ok (.getfield 31, 3) := by decide +kernel
theorem dX11_mayEnd_22 : decode cX11_mayEnd 22 = .ok (.iload_n 1, 1) := by decide +kernel
theorem dX11_mayEnd_23 : decode cX11_mayEnd 23 = .ok (.iaload, 1) := by decide +kernel
theorem dX11_mayEnd_24 : decode cX11_mayEnd 24 = .ok (.iconst (-1), 1) := by decide +kernel
theorem dX11_mayEnd_25 : decode cX11_mayEnd 25 = .ok (.if_icmp .eq 13, 3) := by decide +kernel
theorem dX11_mayEnd_28 : decode cX11_mayEnd 28 = .ok (.iload_n 2, 1) := by decide +kernel
theorem dX11_mayEnd_29 : decode cX11_mayEnd 29 = .ok (.aload_n 0, 1) := by decide +kernel
theorem dX11_mayEnd_30 : decode cX11_mayEnd 30 = .ok (.getfield 31, 3) := by decide +kernel
theorem dX11_mayEnd_33 : decode cX11_mayEnd 33 = .ok (.iload_n 1, 1) := by decide +kernel
theorem dX11_mayEnd_34 : decode cX11_mayEnd 34 = .ok (.iaload, 1) := by decide +kernel
theorem dX11_mayEnd_35 : decode cX11_mayEnd 35 = .ok (.if_icmp .ge 7, 3) := by decide +kernel
theorem dX11_mayEnd_38 : decode cX11_mayEnd 38 = .ok (.iconst 1, 1) := by decide +kernel
theorem dX11_mayEnd_39 : decode cX11_mayEnd 39 = .ok (.goto 4, 3) := by decide +kernel
theorem dX11_mayEnd_42 : decode cX11_mayEnd 42 = .ok (.iconst 0, 1) := by decide +kernel
theorem dX11_mayEnd_43 : decode cX11_mayEnd 43 = .ok (.ireturn, 1) := by decide +kernel
theorem dX11_finish_0 : decode cX11_finish 0 = .ok (.aload_n 0, 1) := by decide +kernel
theorem dX11_finish_1 : decode cX11_finish 1 = .ok (.iload_n 1, 1) := by decide +kernel
theorem dX11_finish_2 : decode cX11_finish 2 = .ok (.invokevirtual 166, 3) := by decide +kernel
theorem dX11_finish_5 : decode cX11_finish 5 = .ok (.ifCond .eq 22, 3) := by decide +kernel
theorem dX11_finish_8 : decode cX11_finish 8 = .ok (.aload_n 0, 1) := by decide +kernel
theorem dX11_finish_9 : decode cX11_finish 9 = .ok (.getfield 7, 3) := by decide +kernel
theorem dX11_finish_12 : decode cX11_finish 12 = .ok (.iload_n 1, 1) := by decide +kernel
theorem dX11_finish_13 : decode cX11_finish 13 = .ok (.iaload, 1) := by decide +kernel
theorem dX11_finish_14 : decode cX11_finish 14 = .ok (.iconst 3, 1) := by decide +kernel
theorem dX11_finish_15 : decode cX11_finish 15 = .ok (.if_icmp .eq 12, 3) := by decide +kernel
theorem dX11_finish_18 : decode cX11_finish 18 = .ok (.aload_n 0, 1) := by decide +kernel
theorem dX11_finish_19 : decode cX11_finish 19 = .ok (.iload_n 1, 1) := by decide +kernel
theorem dX11_finish_20 : decode cX11_finish 20 = .ok (.iload_n 2, 1) := by decide +kernel
theorem dX11_finish_21 : decode cX11_finish 21 = .ok (.invokevirtual 169, 3) := by decide +kernel
theorem dX11_finish_24 : decode cX11_finish 24 = .ok (.ifCond .ne 6, 3) := by decide +kernel
theorem dX11_finish_27 : decode cX11_finish 27 = .ok (.bipush (-2), 2) := by decide +kernel
theorem dX11_finish_29 : decode cX11_finish 29 = .ok (.ireturn, 1) := by decide +kernel
theorem dX11_finish_30 : decode cX11_finish 30 = .ok (.aload_n 0, 1) := by decide +kernel
theorem dX11_finish_31 : decode cX11_finish 31 = .ok (.getfield 31, 3) := by decide +kernel
theorem dX11_finish_34 : decode cX11_finish 34 = .ok (.iload_n 1, 1) := by decide +kernel
theorem dX11_finish_35 : decode cX11_finish 35 = .ok (.iload_n 2, 1) := by decide +kernel
theorem dX11_finish_36 : decode cX11_finish 36 = .ok (.iastore, 1) := by decide +kernel
theorem dX11_finish_37 : decode cX11_finish 37 = .ok (.iconst 1, 1) := by decide +kernel
theorem dX11_finish_38 : decode cX11_finish 38 = .ok (.ireturn, 1) := by decide +kernel
theorem dX11_mayChange_0 : decode cX11_mayChange 0 = .ok (.aload_n 0, 1) := by decide +kernel
theorem dX11_mayChange_1 : decode cX11_mayChange 1 = .ok (.iload_n 1, 1) := by decide +kernel
theorem dX11_mayChange_2 : decode cX11_mayChange 2 = .ok (.invokevirtual 166, 3) := by decide +kernel
theorem dX11_mayChange_5 : decode cX11_mayChange 5 = .ok (.ifCond .eq 47, 3) := by decide +kernel
theorem dX11_mayChange_8 : decode cX11_mayChange 8 = .ok (.aload_n 0, 1) := by decide +kernel
theorem dX11_mayChange_9 : decode cX11_mayChange 9 = .ok (.getfield 7, 3) := by decide +kernel
theorem dX11_mayChange_12 : decode cX11_mayChange 12 = .ok (.iload_n 1, 1) := by decide +kernel
theorem dX11_mayChange_13 : decode cX11_mayChange 13 = .ok (.iaload, 1) := by decide +kernel
theorem dX11_mayChange_14 : decode cX11_mayChange 14 = .ok (.ifCond .ne 38, 3) := by decide +kernel
theorem dX11_mayChange_17 : decode cX11_mayChange 17 = .ok (.aload_n 0, 1) := by decide +kernel
theorem dX11_mayChange_18 : decode cX11_mayChange 18 = .ok (.getfield 37, 3) := by decide +kernel
theorem dX11_mayChange_21 : decode cX11_mayChange 21 = .ok (.iload_n 1, 1) := by decide +kernel
theorem dX11_mayChange_22 : decode cX11_mayChange 22 = .ok (.iaload, 1) := by decide +kernel
theorem dX11_mayChange_23 : decode cX11_mayChange 23 = .ok (.iconst (-1), 1) := by decide +kernel
theorem dX11_mayChange_24 : decode cX11_mayChange 24 = .ok (.if_icmp .ne 28, 3) := by decide +kernel
theorem dX11_mayChange_27 : decode cX11_mayChange 27 = .ok (.aload_n 0, 1) := by decide +kernel
theorem dX11_mayChange_28 : decode cX11_mayChange 28 = .ok (.iload_n 1, 1) := by decide +kernel
theorem dX11_mayChange_29 : decode cX11_mayChange 29 = .ok (.iload_n 2, 1) := by decide +kernel
theorem dX11_mayChange_30 : decode cX11_mayChange 30 = .ok (.invokevirtual 169, 3) := by decide +kernel
theorem dX11_mayChange_33 : decode cX11_mayChange 33 = .ok (.ifCond .eq 19, 3) := by decide +kernel
theorem dX11_mayChange_36 : decode cX11_mayChange 36 = .ok (.iload_n 3, 1) := by decide +kernel
theorem dX11_mayChange_37 : decode cX11_mayChange 37 = .ok (.i2l, 1) := by decide +kernel
theorem dX11_mayChange_38 : decode cX11_mayChange 38 = .ok (.lconst 0, 1) := by decide +kernel
theorem dX11_mayChange_39 : decode cX11_mayChange 39 = .ok (.ldc2_w 173, 3) := by decide +kernel
theorem dX11_mayChange_42 : decode cX11_mayChange 42 = .ok (.invokestatic 110, 3) := by decide +kernel
theorem dX11_mayChange_45 : decode cX11_mayChange 45 = .ok (.ifCond .eq 7, 3) := by decide +kernel
theorem dX11_mayChange_48 : decode cX11_mayChange 48 = .ok (.iconst 1, 1) := by decide +kernel
theorem dX11_mayChange_49 : decode cX11_mayChange 49 = .ok (.goto 4, 3) := by decide +kernel
theorem dX11_mayChange_52 : decode cX11_mayChange 52 = .ok (.iconst 0, 1) := by decide +kernel
theorem dX11_mayChange_53 : decode cX11_mayChange 53 = .ok (.ireturn, 1) := by decide +kernel
theorem dX11_park_0 : decode cX11_park 0 = .ok (.iload 5, 2) := by decide +kernel
theorem dX11_park_2 : decode cX11_park 2 = .ok (.ifCond .ne 4, 3) := by decide +kernel
theorem dX11_park_5 : decode cX11_park 5 = .ok (.return_, 1) := by decide +kernel
theorem dX11_park_6 : decode cX11_park 6 = .ok (.iload 6, 2) := by decide +kernel
theorem dX11_park_8 : decode cX11_park 8 = .ok (.iconst (-1), 1) := by decide +kernel
theorem dX11_park_9 : decode cX11_park 9 = .ok (.if_icmp .eq 13, 3) := by decide +kernel
theorem dX11_park_12 : decode cX11_park 12 = .ok (.iload 4, 2) := by decide +kernel
theorem dX11_park_14 : decode cX11_park 14 = .ok (.iload 5, 2) := by decide +kernel
theorem dX11_park_16 : decode cX11_park 16 = .ok (.iadd, 1) := by decide +kernel
theorem dX11_park_17 : decode cX11_park 17 = .ok (.iload 6, 2) := by decide +kernel
theorem dX11_park_19 : decode cX11_park 19 = .ok (.if_icmp .ge 11, 3) := by decide +kernel
theorem dX11_park_22 : decode cX11_park 22 = .ok (.iload 4, 2) := by decide +kernel
theorem dX11_park_24 : decode cX11_park 24 = .ok (.iload 5, 2) := by decide +kernel
theorem dX11_park_26 : decode cX11_park 26 = .ok (.iadd, 1) := by decide +kernel
theorem dX11_park_27 : decode cX11_park 27 = .ok (.goto 5, 3) := by decide +kernel
theorem dX11_park_30 : decode cX11_park 30 = .ok (.iload 6, 2) := by decide +kernel
theorem dX11_park_32 : decode cX11_park 32 = .ok (.istore 7, 2) := by decide +kernel
theorem dX11_park_34 : decode cX11_park 34 = .ok (.aload_n 0, 1) := by decide +kernel
theorem dX11_park_35 : decode cX11_park 35 = .ok (.iconst 3, 1) := by decide +kernel
theorem dX11_park_36 : decode cX11_park 36 = .ok (.iload_n 3, 1) := by decide +kernel
theorem dX11_park_37 : decode cX11_park 37 = .ok (.aload_n 0, 1) := by decide +kernel
theorem dX11_park_38 : decode cX11_park 38 = .ok (.getfield 16, 3) := by decide +kernel
theorem dX11_park_41 : decode cX11_park 41 = .ok (.iload_n 1, 1) := by decide +kernel
theorem dX11_park_42 : decode cX11_park 42 = .ok (.iaload, 1) := by decide +kernel
theorem dX11_park_43 : decode cX11_park 43 = .ok (.iload_n 2, 1) := by decide +kernel
theorem dX11_park_44 : decode cX11_park 44 = .ok (.aload_n 0, 1) := by decide +kernel
theorem dX11_park_45 : decode cX11_park 45 = .ok (.getfield 22, 3) := by decide +kernel
theorem dX11_park_48 : decode cX11_park 48 = .ok (.iload_n 1, 1) := by decide +kernel
theorem dX11_park_49 : decode cX11_park 49 = .ok (.iaload, 1) := by decide +kernel
theorem dX11_park_50 : decode cX11_park 50 = .ok (.aload_n 0, 1) := by decide +kernel
theorem dX11_park_51 : decode cX11_park 51 = .ok (.getfield 22, 3) := by decide +kernel
theorem dX11_park_54 : decode cX11_park 54 = .ok (.iload_n 1, 1) := by decide +kernel
theorem dX11_park_55 : decode cX11_park 55 = .ok (.iaload, 1) := by decide +kernel
theorem dX11_park_56 : decode cX11_park 56 = .ok (.iload 4, 2) := by decide +kernel
theorem dX11_park_58 : decode cX11_park 58 = .ok (.iload 7, 2) := by decide +kernel
theorem dX11_park_60 : decode cX11_park 60 = .ok (.iload_n 1, 1) := by decide +kernel
theorem dX11_park_61 : decode cX11_park 61 = .ok (.invokevirtual 157, 3) := by decide +kernel
theorem dX11_park_64 : decode cX11_park 64 = .ok (.istore 8, 2) := by decide +kernel
theorem dX11_park_66 : decode cX11_park 66 = .ok (.return_, 1) := by decide +kernel
theorem dX11_split_0 : decode cX11_split 0 = .ok (.aload_n 0, 1) := by decide +kernel
theorem dX11_split_1 : decode cX11_split 1 = .ok (.iload_n 1, 1) := by decide +kernel
theorem dX11_split_2 : decode cX11_split 2 = .ok (.iload 5, 2) := by decide +kernel
theorem dX11_split_4 : decode cX11_split 4 = .ok (.iload 6, 2) := by decide +kernel
theorem dX11_split_6 : decode cX11_split 6 = .ok (.invokevirtual 175, 3) := by decide +kernel
theorem dX11_split_9 : decode cX11_split 9 = .ok (.ifCond .eq 49, 3) := by decide +kernel
theorem dX11_split_12 : decode cX11_split 12 = .ok (.iload_n 2, 1) := by decide +kernel
theorem dX11_split_13 : decode cX11_split 13 = .ok (.iconst 1, 1) := by decide +kernel
theorem dX11_split_14 : decode cX11_split 14 = .ok (.if_icmp .lt 44, 3) := by decide +kernel
theorem dX11_split_17 : decode cX11_split 17 = .ok (.iload_n 2, 1) := by decide +kernel
theorem dX11_split_18 : decode cX11_split 18 = .ok (.aload_n 0, 1) := by decide +kernel
theorem dX11_split_19 : decode cX11_split 19 = .ok (.getfield 19, 3) := by decide +kernel
theorem dX11_split_22 : decode cX11_split 22 = .ok (.iload_n 1, 1) := by decide +kernel
theorem dX11_split_23 : decode cX11_split 23 = .ok (.iaload, 1) := by decide +kernel
theorem dX11_split_24 : decode cX11_split 24 = .ok (.iconst (-1), 1) := by decide +kernel
theorem dX11_split_25 : decode cX11_split 25 = .ok (.ixor, 1) := by decide +kernel
theorem dX11_split_26 : decode cX11_split 26 = .ok (.iand, 1) := by decide +kernel
theorem dX11_split_27 : decode cX11_split 27 = .ok (.ifCond .ne 31, 3) := by decide +kernel
theorem dX11_split_30 : decode cX11_split 30 = .ok (.iload_n 3, 1) := by decide +kernel
theorem dX11_split_31 : decode cX11_split 31 = .ok (.invokestatic 139, 3) := by decide +kernel
theorem dX11_split_34 : decode cX11_split 34 = .ok (.i2l, 1) := by decide +kernel
theorem dX11_split_35 : decode cX11_split 35 = .ok (.lconst 1, 1) := by decide +kernel
theorem dX11_split_36 : decode cX11_split 36 = .ok (.ldc2_w 143, 3) := by decide +kernel
theorem dX11_split_39 : decode cX11_split 39 = .ok (.invokestatic 110, 3) := by decide +kernel
theorem dX11_split_42 : decode cX11_split 42 = .ok (.ifCond .eq 16, 3) := by decide +kernel
theorem dX11_split_45 : decode cX11_split 45 = .ok (.iload 4, 2) := by decide +kernel
theorem dX11_split_47 : decode cX11_split 47 = .ok (.i2l, 1) := by decide +kernel
theorem dX11_split_48 : decode cX11_split 48 = .ok (.lconst 0, 1) := by decide +kernel
theorem dX11_split_49 : decode cX11_split 49 = .ok (.ldc2_w 137, 3) := by decide +kernel
theorem dX11_split_52 : decode cX11_split 52 = .ok (.invokestatic 110, 3) := by decide +kernel
theorem dX11_split_55 : decode cX11_split 55 = .ok (.ifCond .ne 6, 3) := by decide +kernel
theorem dX11_split_58 : decode cX11_split 58 = .ok (.bipush (-2), 2) := by decide +kernel
theorem dX11_split_60 : decode cX11_split 60 = .ok (.ireturn, 1) := by decide +kernel
theorem dX11_split_61 : decode cX11_split 61 = .ok (.iload_n 3, 1) := by decide +kernel
theorem dX11_split_62 : decode cX11_split 62 = .ok (.invokestatic 139, 3) := by decide +kernel
theorem dX11_split_65 : decode cX11_split 65 = .ok (.aload_n 0, 1) := by decide +kernel
theorem dX11_split_66 : decode cX11_split 66 = .ok (.getfield 22, 3) := by decide +kernel
theorem dX11_split_69 : decode cX11_split 69 = .ok (.iload_n 1, 1) := by decide +kernel
theorem dX11_split_70 : decode cX11_split 70 = .ok (.iaload, 1) := by decide +kernel
theorem dX11_split_71 : decode cX11_split 71 = .ok (.iadd, 1) := by decide +kernel
theorem dX11_split_72 : decode cX11_split 72 = .ok (.aload_n 0, 1) := by decide +kernel
theorem dX11_split_73 : decode cX11_split 73 = .ok (.getfield 16, 3) := by decide +kernel
theorem dX11_split_76 : decode cX11_split 76 = .ok (.iload_n 1, 1) := by decide +kernel
theorem dX11_split_77 : decode cX11_split 77 = .ok (.iaload, 1) := by decide +kernel
theorem dX11_split_78 : decode cX11_split 78 = .ok (.invokestatic 139, 3) := by decide +kernel
theorem dX11_split_81 : decode cX11_split 81 = .ok (.isub, 1) := by decide +kernel
theorem dX11_split_82 : decode cX11_split 82 = .ok (.istore 7, 2) := by decide +kernel
theorem dX11_split_84 : decode cX11_split 84 = .ok (.iload 7, 2) := by decide +kernel
theorem dX11_split_86 : decode cX11_split 86 = .ok (.bipush 12, 2) := by decide +kernel
theorem dX11_split_88 : decode cX11_split 88 = .ok (.if_icmp .le 6, 3) := by decide +kernel
theorem dX11_split_91 : decode cX11_split 91 = .ok (.bipush (-2), 2) := by decide +kernel
theorem dX11_split_93 : decode cX11_split 93 = .ok (.ireturn, 1) := by decide +kernel
theorem dX11_split_94 : decode cX11_split 94 = .ok (.iload_n 2, 1) := by decide +kernel
theorem dX11_split_95 : decode cX11_split 95 = .ok (.aload_n 0, 1) := by decide +kernel
theorem dX11_split_96 : decode cX11_split 96 = .ok (.getfield 19, 3) := by decide +kernel
theorem dX11_split_99 : decode cX11_split 99 = .ok (.iload_n 1, 1) := by decide +kernel
theorem dX11_split_100 : decode cX11_split 100 = .ok (.iaload, 1) := by decide +kernel
theorem dX11_split_101 : decode cX11_split 101 = .ok (.if_icmp .ne 7, 3) := by decide +kernel
theorem dX11_split_104 : decode cX11_split 104 = .ok (.iconst 1, 1) := by decide +kernel
theorem dX11_split_105 : decode cX11_split 105 = .ok (.goto 4, 3) := by decide +kernel
theorem dX11_split_108 : decode cX11_split 108 = .ok (.iconst 0, 1) := by decide +kernel
theorem dX11_split_109 : decode cX11_split 109 = .ok (.istore 8, 2) := by decide +kernel
theorem dX11_split_111 : decode cX11_split 111 = .ok (.aload_n 0, 1) := by decide +kernel
theorem dX11_split_112 : decode cX11_split 112 = .ok (.getfield 130, 3) := by decide +kernel
theorem dX11_split_115 : decode cX11_split 115 = .ok (.iload 8, 2) := by decide +kernel
theorem dX11_split_117 : decode cX11_split 117 = .ok (.ifCond .eq 7, 3) := by decide +kernel
theorem dX11_split_120 : decode cX11_split 120 = .ok (.iconst 0, 1) := by decide +kernel
theorem dX11_split_121 : decode cX11_split 121 = .ok (.goto 4, 3) := by decide +kernel
theorem dX11_split_124 : decode cX11_split 124 = .ok (.iconst 1, 1) := by decide +kernel
theorem dX11_split_125 : decode cX11_split 125 = .ok (.iadd, 1) := by decide +kernel
theorem dX11_split_126 : decode cX11_split 126 = .ok (.iconst 1, 1) := by decide +kernel
theorem dX11_split_127 : decode cX11_split 127 = .ok (.iadd, 1) := by decide +kernel
theorem dX11_split_128 : decode cX11_split 128 = .ok (.iload 6, 2) := by decide +kernel
theorem dX11_split_130 : decode cX11_split 130 = .ok (.ifCond .le 7, 3) := by decide +kernel
theorem dX11_split_133 : decode cX11_split 133 = .ok (.iconst 1, 1) := by decide +kernel
theorem dX11_split_134 : decode cX11_split 134 = .ok (.goto 4, 3) := by decide +kernel
theorem dX11_split_137 : decode cX11_split 137 = .ok (.iconst 0, 1) := by decide +kernel
theorem dX11_split_138 : decode cX11_split 138 = .ok (.iadd, 1) := by decide +kernel
theorem dX11_split_139 : decode cX11_split 139 = .ok (.bipush 120, 2) := by decide +kernel
theorem dX11_split_141 : decode cX11_split 141 = .ok (.if_icmp .le 6, 3) := by decide +kernel
theorem dX11_split_144 : decode cX11_split 144 = .ok (.bipush (-3), 2) := by decide +kernel
theorem dX11_split_146 : decode cX11_split 146 = .ok (.ireturn, 1) := by decide +kernel
theorem dX11_split_147 : decode cX11_split 147 = .ok (.aload_n 0, 1) := by decide +kernel
theorem dX11_split_148 : decode cX11_split 148 = .ok (.getfield 31, 3) := by decide +kernel
theorem dX11_split_151 : decode cX11_split 151 = .ok (.iload_n 1, 1) := by decide +kernel
theorem dX11_split_152 : decode cX11_split 152 = .ok (.iaload, 1) := by decide +kernel
theorem dX11_split_153 : decode cX11_split 153 = .ok (.istore 9, 2) := by decide +kernel
theorem dX11_split_155 : decode cX11_split 155 = .ok (.aload_n 0, 1) := by decide +kernel
theorem dX11_split_156 : decode cX11_split 156 = .ok (.getfield 31, 3) := by decide +kernel
theorem dX11_split_159 : decode cX11_split 159 = .ok (.iload_n 1, 1) := by decide +kernel
theorem dX11_split_160 : decode cX11_split 160 = .ok (.iload 5, 2) := by decide +kernel
theorem dX11_split_162 : decode cX11_split 162 = .ok (.iastore, 1) := by decide +kernel
theorem dX11_split_163 : decode cX11_split 163 = .ok (.aload_n 0, 1) := by decide +kernel
theorem dX11_split_164 : decode cX11_split 164 = .ok (.getfield 37, 3) := by decide +kernel
theorem dX11_split_167 : decode cX11_split 167 = .ok (.iload_n 1, 1) := by decide +kernel
theorem dX11_split_168 : decode cX11_split 168 = .ok (.iload 5, 2) := by decide +kernel
theorem dX11_split_170 : decode cX11_split 170 = .ok (.iastore, 1) := by decide +kernel
theorem dX11_split_171 : decode cX11_split 171 = .ok (.aload_n 0, 1) := by decide +kernel
theorem dX11_split_172 : decode cX11_split 172 = .ok (.getfield 43, 3) := by decide +kernel
theorem dX11_split_175 : decode cX11_split 175 = .ok (.iload_n 1, 1) := by decide +kernel
theorem dX11_split_176 : decode cX11_split 176 = .ok (.iload_n 2, 1) := by decide +kernel
theorem dX11_split_177 : decode cX11_split 177 = .ok (.iastore, 1) := by decide +kernel
theorem dX11_split_178 : decode cX11_split 178 = .ok (.iload 8, 2) := by decide +kernel
theorem dX11_split_180 : decode cX11_split 180 = .ok (.ifCond .ne 53, 3) := by decide +kernel
theorem dX11_split_183 : decode cX11_split 183 = .ok (.aload_n 0, 1) := by decide +kernel
theorem dX11_split_184 : decode cX11_split 184 = .ok (.getfield 40, 3) := by decide +kernel
theorem dX11_split_187 : decode cX11_split 187 = .ok (.iload_n 1, 1) := by decide +kernel
theorem dX11_split_188 : decode cX11_split 188 = .ok (.aload_n 0, 1) := by decide +kernel
theorem dX11_split_189 : decode cX11_split 189 = .ok (.iconst 0, 1) := by decide +kernel
theorem dX11_split_190 : decode cX11_split 190 = .ok (.aload_n 0, 1) := by decide +kernel
theorem dX11_split_191 : decode cX11_split 191 = .ok (.getfield 13, 3) := by decide +kernel
theorem dX11_split_194 : decode cX11_split 194 = .ok (.iload_n 1, 1) := by decide +kernel
theorem dX11_split_195 : decode cX11_split 195 = .ok (.iaload, 1) := by decide +kernel
theorem dX11_split_196 : decode cX11_split 196 = .ok (.aload_n 0, 1) := by decide +kernel
theorem dX11_split_197 : decode cX11_split 197 = .ok (.getfield 16, 3) := by decide +kernel
theorem dX11_split_200 : decode cX11_split 200 = .ok (.iload_n 1, 1) := by decide +kernel
theorem dX11_split_201 : decode cX11_split 201 = .ok (.iaload, 1) := by decide +kernel
theorem dX11_split_202 : decode cX11_split 202 = .ok (.aload_n 0, 1) := by decide +kernel
theorem dX11_split_203 : decode cX11_split 203 = .ok (.getfield 19, 3) := by decide +kernel
theorem dX11_split_206 : decode cX11_split 206 = .ok (.iload_n 1, 1) := by decide +kernel
theorem dX11_split_207 : decode cX11_split 207 = .ok (.iaload, 1) := by decide +kernel
theorem dX11_split_208 : decode cX11_split 208 = .ok (.iload_n 2, 1) := by decide +kernel
theorem dX11_split_209 : decode cX11_split 209 = .ok (.iconst (-1), 1) := by decide +kernel
theorem dX11_split_210 : decode cX11_split 210 = .ok (.ixor, 1) := by decide +kernel
theorem dX11_split_211 : decode cX11_split 211 = .ok (.iand, 1) := by decide +kernel
theorem dX11_split_212 : decode cX11_split 212 = .ok (.aload_n 0, 1) := by decide +kernel
theorem dX11_split_213 : decode cX11_split 213 = .ok (.getfield 22, 3) := by decide +kernel
theorem dX11_split_216 : decode cX11_split 216 = .ok (.iload_n 1, 1) := by decide +kernel
theorem dX11_split_217 : decode cX11_split 217 = .ok (.iaload, 1) := by decide +kernel
theorem dX11_split_218 : decode cX11_split 218 = .ok (.aload_n 0, 1) := by decide +kernel
theorem dX11_split_219 : decode cX11_split 219 = .ok (.getfield 22, 3) := by decide +kernel
theorem dX11_split_222 : decode cX11_split 222 = .ok (.iload_n 1, 1) := by decide +kernel
theorem dX11_split_223 : decode cX11_split 223 = .ok (.iaload, 1) := by decide +kernel
theorem dX11_split_224 : decode cX11_split 224 = .ok (.iload 5, 2) := by decide +kernel
theorem dX11_split_226 : decode cX11_split 226 = .ok (.iload 9, 2) := by decide +kernel
theorem dX11_split_228 : decode cX11_split 228 = .ok (.iload_n 1, 1) := by decide +kernel
theorem dX11_split_229 : decode cX11_split 229 = .ok (.invokevirtual 157, 3) := by decide +kernel
theorem dX11_split_232 : decode cX11_split 232 = .ok (.iastore, 1) := by decide +kernel
theorem dX11_split_233 : decode cX11_split 233 = .ok (.aload_n 0, 1) := by decide +kernel
theorem dX11_split_234 : decode cX11_split 234 = .ok (.iconst 0, 1) := by decide +kernel
theorem dX11_split_235 : decode cX11_split 235 = .ok (.iload 4, 2) := by decide +kernel
theorem dX11_split_237 : decode cX11_split 237 = .ok (.iload_n 3, 1) := by decide +kernel
theorem dX11_split_238 : decode cX11_split 238 = .ok (.iload_n 2, 1) := by decide +kernel
theorem dX11_split_239 : decode cX11_split 239 = .ok (.iload 7, 2) := by decide +kernel
theorem dX11_split_241 : decode cX11_split 241 = .ok (.iload 7, 2) := by decide +kernel
theorem dX11_split_243 : decode cX11_split 243 = .ok (.iload 5, 2) := by decide +kernel
theorem dX11_split_245 : decode cX11_split 245 = .ok (.iload 9, 2) := by decide +kernel
theorem dX11_split_247 : decode cX11_split 247 = .ok (.iload_n 1, 1) := by decide +kernel
theorem dX11_split_248 : decode cX11_split 248 = .ok (.invokevirtual 157, 3) := by decide +kernel
theorem dX11_split_251 : decode cX11_split 251 = .ok (.istore 10, 2) := by decide +kernel
theorem dX11_split_253 : decode cX11_split 253 = .ok (.aload_n 0, 1) := by decide +kernel
theorem dX11_split_254 : decode cX11_split 254 = .ok (.getfield 46, 3) := by decide +kernel
theorem dX11_split_257 : decode cX11_split 257 = .ok (.iload_n 1, 1) := by decide +kernel
theorem dX11_split_258 : decode cX11_split 258 = .ok (.iload 10, 2) := by decide +kernel
theorem dX11_split_260 : decode cX11_split 260 = .ok (.iastore, 1) := by decide +kernel
theorem dX11_split_261 : decode cX11_split 261 = .ok (.aload_n 0, 1) := by decide +kernel
theorem dX11_split_262 : decode cX11_split 262 = .ok (.iload_n 1, 1) := by decide +kernel
theorem dX11_split_263 : decode cX11_split 263 = .ok (.iload_n 2, 1) := by decide +kernel
theorem dX11_split_264 : decode cX11_split 264 = .ok (.iload 10, 2) := by decide +kernel
theorem dX11_split_266 : decode cX11_split 266 = .ok (.iload 5, 2) := by decide +kernel
theorem dX11_split_268 : decode cX11_split 268 = .ok (.iload 6, 2) := by decide +kernel
theorem dX11_split_270 : decode cX11_split 270 = .ok (.iload 9, 2) := by decide +kernel
theorem dX11_split_272 : decode cX11_split 272 = .ok (.invokevirtual 179, 3) := by decide +kernel
theorem dX11_split_275 : decode cX11_split 275 = .ok (.iload 10, 2) := by decide +kernel
theorem dX11_split_277 : decode cX11_split 277 = .ok (.ireturn, 1) := by decide +kernel
theorem dX11_lengthen_0 : decode cX11_lengthen 0 = .ok (.aload_n 0, 1) := by decide +kernel
theorem dX11_lengthen_1 : decode cX11_lengthen 1 = .ok (.iload_n 1, 1) := by decide +kernel
theorem dX11_lengthen_2 : decode cX11_lengthen 2 = .ok (.iload_n 3, 1) := by decide +kernel
theorem dX11_lengthen_3 : decode cX11_lengthen 3 = .ok (.iload 4, 2) := by decide +kernel
theorem dX11_lengthen_5 : decode cX11_lengthen 5 = .ok (.invokevirtual 175, 3) := by decide +kernel
theorem dX11_lengthen_8 : decode cX11_lengthen 8 = .ok (.ifCond .eq 40, 3) := by decide +kernel
theorem dX11_lengthen_11 : decode cX11_lengthen 11 = .ok (.iload_n 2, 1) := by decide +kernel
theorem dX11_lengthen_12 : decode cX11_lengthen 12 = .ok (.i2l, 1) := by decide +kernel
theorem dX11_lengthen_13 : decode cX11_lengthen 13 = .ok (.lconst 0, 1) := by decide +kernel
theorem dX11_lengthen_14 : decode cX11_lengthen 14 = .ok (.ldc2_w 118, 3) := by decide +kernel
theorem dX11_lengthen_17 : decode cX11_lengthen 17 = .ok (.invokestatic 110, 3) := by decide +kernel
theorem dX11_lengthen_20 : decode cX11_lengthen 20 = .ok (.ifCond .eq 28, 3) := by decide +kernel
theorem dX11_lengthen_23 : decode cX11_lengthen 23 = .ok (.aload_n 0, 1) := by decide +kernel
theorem dX11_lengthen_24 : decode cX11_lengthen 24 = .ok (.getfield 16, 3) := by decide +kernel
theorem dX11_lengthen_27 : decode cX11_lengthen 27 = .ok (.iload_n 1, 1) := by decide +kernel
theorem dX11_lengthen_28 : decode cX11_lengthen 28 = .ok (.iaload, 1) := by decide +kernel
theorem dX11_lengthen_29 : decode cX11_lengthen 29 = .ok (.invokestatic 139, 3) := by decide +kernel
theorem dX11_lengthen_32 : decode cX11_lengthen 32 = .ok (.bipush 7, 2) := by decide +kernel
theorem dX11_lengthen_34 : decode cX11_lengthen 34 = .ok (.if_icmp .eq 14, 3) := by decide +kernel
theorem dX11_lengthen_37 : decode cX11_lengthen 37 = .ok (.aload_n 0, 1) := by decide +kernel
theorem dX11_lengthen_38 : decode cX11_lengthen 38 = .ok (.getfield 22, 3) := by decide +kernel
theorem dX11_lengthen_41 : decode cX11_lengthen 41 = .ok (.iload_n 1, 1) := by decide +kernel
theorem dX11_lengthen_42 : decode cX11_lengthen 42 = .ok (.iaload, 1) := by decide +kernel
theorem dX11_lengthen_43 : decode cX11_lengthen 43 = .ok (.bipush 12, 2) := by decide +kernel
theorem dX11_lengthen_45 : decode cX11_lengthen 45 = .ok (.if_icmp .ne 6, 3) := by decide +kernel
theorem dX11_lengthen_48 : decode cX11_lengthen 48 = .ok (.bipush (-2), 2) := by decide +kernel
theorem dX11_lengthen_50 : decode cX11_lengthen 50 = .ok (.ireturn, 1) := by decide +kernel
theorem dX11_lengthen_51 : decode cX11_lengthen 51 = .ok (.aload_n 0, 1) := by decide +kernel
theorem dX11_lengthen_52 : decode cX11_lengthen 52 = .ok (.getfield 130, 3) := by decide +kernel
theorem dX11_lengthen_55 : decode cX11_lengthen 55 = .ok (.iconst 1, 1) := by decide +kernel
theorem dX11_lengthen_56 : decode cX11_lengthen 56 = .ok (.iadd, 1) := by decide +kernel
theorem dX11_lengthen_57 : decode cX11_lengthen 57 = .ok (.iload 4, 2) := by decide +kernel
theorem dX11_lengthen_59 : decode cX11_lengthen 59 = .ok (.ifCond .le 7, 3) := by decide +kernel
theorem dX11_lengthen_62 : decode cX11_lengthen 62 = .ok (.iconst 1, 1) := by decide +kernel
theorem dX11_lengthen_63 : decode cX11_lengthen 63 = .ok (.goto 4, 3) := by decide +kernel
theorem dX11_lengthen_66 : decode cX11_lengthen 66 = .ok (.iconst 0, 1) := by decide +kernel
theorem dX11_lengthen_67 : decode cX11_lengthen 67 = .ok (.iadd, 1) := by decide +kernel
theorem dX11_lengthen_68 : decode cX11_lengthen 68 = .ok (.bipush 120, 2) := by decide +kernel
theorem dX11_lengthen_70 : decode cX11_lengthen 70 = .ok (.if_icmp .le 6, 3) := by decide +kernel
theorem dX11_lengthen_73 : decode cX11_lengthen 73 = .ok (.bipush (-3), 2) := by decide +kernel
theorem dX11_lengthen_75 : decode cX11_lengthen 75 = .ok (.ireturn, 1) := by decide +kernel
theorem dX11_lengthen_76 : decode cX11_lengthen 76 = .ok (.aload_n 0, 1) := by decide +kernel
theorem dX11_lengthen_77 : decode cX11_lengthen 77 = .ok (.getfield 31, 3) := by decide +kernel
theorem dX11_lengthen_80 : decode cX11_lengthen 80 = .ok (.iload_n 1, 1) := by decide +kernel
theorem dX11_lengthen_81 : decode cX11_lengthen 81 = .ok (.iaload, 1) := by decide +kernel
theorem dX11_lengthen_82 : decode cX11_lengthen 82 = .ok (.istore 5, 2) := by decide +kernel
theorem dX11_lengthen_84 : decode cX11_lengthen 84 = .ok (.aload_n 0, 1) := by decide +kernel
theorem dX11_lengthen_85 : decode cX11_lengthen 85 = .ok (.getfield 31, 3) := by decide +kernel
theorem dX11_lengthen_88 : decode cX11_lengthen 88 = .ok (.iload_n 1, 1) := by decide +kernel
theorem dX11_lengthen_89 : decode cX11_lengthen 89 = .ok (.iload_n 3, 1) := by decide +kernel
theorem dX11_lengthen_90 : decode cX11_lengthen 90 = .ok (.iastore, 1) := by decide +kernel
theorem dX11_lengthen_91 : decode cX11_lengthen 91 = .ok (.aload_n 0, 1) := by decide +kernel
theorem dX11_lengthen_92 : decode cX11_lengthen 92 = .ok (.getfield 37, 3) := by decide +kernel
theorem dX11_lengthen_95 : decode cX11_lengthen 95 = .ok (.iload_n 1, 1) := by decide +kernel
theorem dX11_lengthen_96 : decode cX11_lengthen 96 = .ok (.iload_n 3, 1) := by decide +kernel
theorem dX11_lengthen_97 : decode cX11_lengthen 97 = .ok (.iastore, 1) := by decide +kernel
theorem dX11_lengthen_98 : decode cX11_lengthen 98 = .ok (.aload_n 0, 1) := by decide +kernel
theorem dX11_lengthen_99 : decode cX11_lengthen 99 = .ok (.getfield 43, 3) := by decide +kernel
theorem dX11_lengthen_102 : decode cX11_lengthen 102 = .ok (.iload_n 1, 1) := by decide +kernel
theorem dX11_lengthen_103 : decode cX11_lengthen 103 = .ok (.aload_n 0, 1) := by decide +kernel
theorem dX11_lengthen_104 : decode cX11_lengthen 104 = .ok (.getfield 19, 3) := by decide +kernel
theorem dX11_lengthen_107 : decode cX11_lengthen 107 = .ok (.iload_n 1, 1) := by decide +kernel
theorem dX11_lengthen_108 : decode cX11_lengthen 108 = .ok (.iaload, 1) := by decide +kernel
theorem dX11_lengthen_109 : decode cX11_lengthen 109 = .ok (.iastore, 1) := by decide +kernel
theorem dX11_lengthen_110 : decode cX11_lengthen 110 = .ok (.aload_n 0, 1) := by decide +kernel
theorem dX11_lengthen_111 : decode cX11_lengthen 111 = .ok (.iconst 0, 1) := by decide +kernel
theorem dX11_lengthen_112 : decode cX11_lengthen 112 = .ok (.aload_n 0, 1) := by decide +kernel
theorem dX11_lengthen_113 : decode cX11_lengthen 113 = .ok (.getfield 13, 3) := by decide +kernel
theorem dX11_lengthen_116 : decode cX11_lengthen 116 = .ok (.iload_n 1, 1) := by decide +kernel
theorem dX11_lengthen_117 : decode cX11_lengthen 117 = .ok (.iaload, 1) := by decide +kernel
theorem dX11_lengthen_118 : decode cX11_lengthen 118 = .ok (.bipush 10, 2) := by decide +kernel
theorem dX11_lengthen_120 : decode cX11_lengthen 120 = .ok (.aload_n 0, 1) := by decide +kernel
theorem dX11_lengthen_121 : decode cX11_lengthen 121 = .ok (.getfield 16, 3) := by decide +kernel
theorem dX11_lengthen_124 : decode cX11_lengthen 124 = .ok (.iload_n 1, 1) := by decide +kernel
theorem dX11_lengthen_125 : decode cX11_lengthen 125 = .ok (.iaload, 1) := by decide +kernel
theorem dX11_lengthen_126 : decode cX11_lengthen 126 = .ok (.imul, 1) := by decide +kernel
end
section
theorem dX11_lengthen_127 : decode cX11_lengthen 127 = .ok (.iload_n 2, 1) := by decide +kernel
theorem dX11_lengthen_128 : decode cX11_lengthen 128 = .ok (.iadd, 1) := by decide +kernel
theorem dX11_lengthen_129 : decode cX11_lengthen 129 = .ok (.aload_n 0, 1) := by decide +kernel
theorem dX11_lengthen_130 : decode cX11_lengthen 130 = .ok (.getfield 19, 3) := by decide +kernel
theorem dX11_lengthen_133 : decode cX11_lengthen 133 = .ok (.iload_n 1, 1) := by decide +kernel
theorem dX11_lengthen_134 : decode cX11_lengthen 134 = .ok (.iaload, 1) := by decide +kernel
theorem dX11_lengthen_135 : decode cX11_lengthen 135 = .ok (.aload_n 0, 1) := by decide +kernel
theorem dX11_lengthen_136 : decode cX11_lengthen 136 = .ok (.getfield 22, 3) := by decide +kernel
theorem dX11_lengthen_139 : decode cX11_lengthen 139 = .ok (.iload_n 1, 1) := by decide +kernel
theorem dX11_lengthen_140 : decode cX11_lengthen 140 = .ok (.iaload, 1) := by decide +kernel
theorem dX11_lengthen_141 : decode cX11_lengthen 141 = .ok (.iconst 1, 1) := by decide +kernel
theorem dX11_lengthen_142 : decode cX11_lengthen 142 = .ok (.iadd, 1) := by decide +kernel
theorem dX11_lengthen_143 : decode cX11_lengthen 143 = .ok (.aload_n 0, 1) := by decide +kernel
theorem dX11_lengthen_144 : decode cX11_lengthen 144 = .ok (.getfield 22, 3) := by decide +kernel
theorem dX11_lengthen_147 : decode cX11_lengthen 147 = .ok (.iload_n 1, 1) := by decide +kernel
theorem dX11_lengthen_148 : decode cX11_lengthen 148 = .ok (.iaload, 1) := by decide +kernel
theorem dX11_lengthen_149 : decode cX11_lengthen 149 = .ok (.iconst 1, 1) := by decide +kernel
theorem dX11_lengthen_150 : decode cX11_lengthen 150 = .ok (.iadd, 1) := by decide +kernel
theorem dX11_lengthen_151 : decode cX11_lengthen 151 = .ok (.iload_n 3, 1) := by decide +kernel
theorem dX11_lengthen_152 : decode cX11_lengthen 152 = .ok (.iload 5, 2) := by decide +kernel
theorem dX11_lengthen_154 : decode cX11_lengthen 154 = .ok (.iload_n 1, 1) := by decide +kernel
theorem dX11_lengthen_155 : decode cX11_lengthen 155 = .ok (.invokevirtual 157, 3) := by decide +kernel
theorem dX11_lengthen_158 : decode cX11_lengthen 158 = .ok (.istore 6, 2) := by decide +kernel
theorem dX11_lengthen_160 : decode cX11_lengthen 160 = .ok (.aload_n 0, 1) := by decide +kernel
theorem dX11_lengthen_161 : decode cX11_lengthen 161 = .ok (.getfield 46, 3) := by decide +kernel
theorem dX11_lengthen_164 : decode cX11_lengthen 164 = .ok (.iload_n 1, 1) := by decide +kernel
theorem dX11_lengthen_165 : decode cX11_lengthen 165 = .ok (.iload 6, 2) := by decide +kernel
theorem dX11_lengthen_167 : decode cX11_lengthen 167 = .ok (.iastore, 1) := by decide +kernel
theorem dX11_lengthen_168 : decode cX11_lengthen 168 = .ok (.aload_n 0, 1) := by decide +kernel
theorem dX11_lengthen_169 : decode cX11_lengthen 169 = .ok (.iload_n 1, 1) := by decide +kernel
theorem dX11_lengthen_170 : decode cX11_lengthen 170 = .ok (.aload_n 0, 1) := by decide +kernel
theorem dX11_lengthen_171 : decode cX11_lengthen 171 = .ok (.getfield 19, 3) := by decide +kernel
theorem dX11_lengthen_174 : decode cX11_lengthen 174 = .ok (.iload_n 1, 1) := by decide +kernel
theorem dX11_lengthen_175 : decode cX11_lengthen 175 = .ok (.iaload, 1) := by decide +kernel
theorem dX11_lengthen_176 : decode cX11_lengthen 176 = .ok (.iload 6, 2) := by decide +kernel
theorem dX11_lengthen_178 : decode cX11_lengthen 178 = .ok (.iload_n 3, 1) := by decide +kernel
theorem dX11_lengthen_179 : decode cX11_lengthen 179 = .ok (.iload 4, 2) := by decide +kernel
theorem dX11_lengthen_181 : decode cX11_lengthen 181 = .ok (.iload 5, 2) := by decide +kernel
theorem dX11_lengthen_183 : decode cX11_lengthen 183 = .ok (.invokevirtual 179, 3) := by decide +kernel
theorem dX11_lengthen_186 : decode cX11_lengthen 186 = .ok (.iload 6, 2) := by decide +kernel
theorem dX11_lengthen_188 : decode cX11_lengthen 188 = .ok (.ireturn, 1) := by decide +kernel
theorem dX11_entry_0 : decode cX11_entry 0 = .ok (.aload_n 0, 1) := by decide +kernel
theorem dX11_entry_1 : decode cX11_entry 1 = .ok (.iload_n 1, 1) := by decide +kernel
theorem dX11_entry_2 : decode cX11_entry 2 = .ok (.invokevirtual 166, 3) := by decide +kernel
theorem dX11_entry_5 : decode cX11_entry 5 = .ok (.ifCond .ne 5, 3) := by decide +kernel
theorem dX11_entry_8 : decode cX11_entry 8 = .ok (.iconst (-1), 1) := by decide +kernel
theorem dX11_entry_9 : decode cX11_entry 9 = .ok (.ireturn, 1) := by decide +kernel
theorem dX11_entry_10 : decode cX11_entry 10 = .ok (.iload_n 2, 1) := by decide +kernel
theorem dX11_entry_11 : decode cX11_entry 11 = .ok (.tableswitch 112 0 8 #[49, 56, 63, 70, 77, 84, 91, 98, 105], 49) := by decide +kernel
theorem dX11_entry_60 : decode cX11_entry 60 = .ok (.aload_n 0, 1) := by decide +kernel
theorem dX11_entry_61 : decode cX11_entry 61 = .ok (.getfield 7, 3) := by decide +kernel
theorem dX11_entry_64 : decode cX11_entry 64 = .ok (.iload_n 1, 1) := by decide +kernel
theorem dX11_entry_65 : decode cX11_entry 65 = .ok (.iaload, 1) := by decide +kernel
theorem dX11_entry_66 : decode cX11_entry 66 = .ok (.ireturn, 1) := by decide +kernel
theorem dX11_entry_67 : decode cX11_entry 67 = .ok (.aload_n 0, 1) := by decide +kernel
theorem dX11_entry_68 : decode cX11_entry 68 = .ok (.getfield 13, 3) := by decide +kernel
theorem dX11_entry_71 : decode cX11_entry 71 = .ok (.iload_n 1, 1) := by decide +kernel
theorem dX11_entry_72 : decode cX11_entry 72 = .ok (.iaload, 1) := by decide +kernel
theorem dX11_entry_73 : decode cX11_entry 73 = .ok (.ireturn, 1) := by decide +kernel
theorem dX11_entry_74 : decode cX11_entry 74 = .ok (.aload_n 0, 1) := by decide +kernel
theorem dX11_entry_75 : decode cX11_entry 75 = .ok (.getfield 16, 3) := by decide +kernel
theorem dX11_entry_78 : decode cX11_entry 78 = .ok (.iload_n 1, 1) := by decide +kernel
theorem dX11_entry_79 : decode cX11_entry 79 = .ok (.iaload, 1) := by decide +kernel
theorem dX11_entry_80 : decode cX11_entry 80 = .ok (.ireturn, 1) := by decide +kernel
theorem dX11_entry_81 : decode cX11_entry 81 = .ok (.aload_n 0, 1) := by decide +kernel
theorem dX11_entry_82 : decode cX11_entry 82 = .ok (.getfield 19, 3) := by decide +kernel
theorem dX11_entry_85 : decode cX11_entry 85 = .ok (.iload_n 1, 1) := by decide +kernel
theorem dX11_entry_86 : decode cX11_entry 86 = .ok (.iaload, 1) := by decide +kernel
theorem dX11_entry_87 : decode cX11_entry 87 = .ok (.ireturn, 1) := by decide +kernel
theorem dX11_entry_88 : decode cX11_entry 88 = .ok (.aload_n 0, 1) := by decide +kernel
theorem dX11_entry_89 : decode cX11_entry 89 = .ok (.getfield 22, 3) := by decide +kernel
theorem dX11_entry_92 : decode cX11_entry 92 = .ok (.iload_n 1, 1) := by decide +kernel
theorem dX11_entry_93 : decode cX11_entry 93 = .ok (.iaload, 1) := by decide +kernel
theorem dX11_entry_94 : decode cX11_entry 94 = .ok (.ireturn, 1) := by decide +kernel
theorem dX11_entry_95 : decode cX11_entry 95 = .ok (.aload_n 0, 1) := by decide +kernel
theorem dX11_entry_96 : decode cX11_entry 96 = .ok (.getfield 25, 3) := by decide +kernel
theorem dX11_entry_99 : decode cX11_entry 99 = .ok (.iload_n 1, 1) := by decide +kernel
theorem dX11_entry_100 : decode cX11_entry 100 = .ok (.iaload, 1) := by decide +kernel
theorem dX11_entry_101 : decode cX11_entry 101 = .ok (.ireturn, 1) := by decide +kernel
theorem dX11_entry_102 : decode cX11_entry 102 = .ok (.aload_n 0, 1) := by decide +kernel
theorem dX11_entry_103 : decode cX11_entry 103 = .ok (.getfield 28, 3) := by decide +kernel
theorem dX11_entry_106 : decode cX11_entry 106 = .ok (.iload_n 1, 1) := by decide +kernel
theorem dX11_entry_107 : decode cX11_entry 107 = .ok (.iaload, 1) := by decide +kernel
theorem dX11_entry_108 : decode cX11_entry 108 = .ok (.ireturn, 1) := by decide +kernel
theorem dX11_entry_109 : decode cX11_entry 109 = .ok (.aload_n 0, 1) := by decide +kernel
theorem dX11_entry_110 : decode cX11_entry 110 = .ok (.getfield 31, 3) := by decide +kernel
theorem dX11_entry_113 : decode cX11_entry 113 = .ok (.iload_n 1, 1) := by decide +kernel
theorem dX11_entry_114 : decode cX11_entry 114 = .ok (.iaload, 1) := by decide +kernel
theorem dX11_entry_115 : decode cX11_entry 115 = .ok (.ireturn, 1) := by decide +kernel
theorem dX11_entry_116 : decode cX11_entry 116 = .ok (.aload_n 0, 1) := by decide +kernel
theorem dX11_entry_117 : decode cX11_entry 117 = .ok (.getfield 34, 3) := by decide +kernel
theorem dX11_entry_120 : decode cX11_entry 120 = .ok (.iload_n 1, 1) := by decide +kernel
theorem dX11_entry_121 : decode cX11_entry 121 = .ok (.iaload, 1) := by decide +kernel
theorem dX11_entry_122 : decode cX11_entry 122 = .ok (.ireturn, 1) := by decide +kernel
theorem dX11_entry_123 : decode cX11_entry 123 = .ok (.iconst (-1), 1) := by decide +kernel
theorem dX11_entry_124 : decode cX11_entry 124 = .ok (.ireturn, 1) := by decide +kernel
theorem dX11_may_0 : decode cX11_may 0 = .ok (.aload_n 0, 1) := by decide +kernel
theorem dX11_may_1 : decode cX11_may 1 = .ok (.getfield 16, 3) := by decide +kernel
theorem dX11_may_4 : decode cX11_may 4 = .ok (.iload_n 1, 1) := by decide +kernel
theorem dX11_may_5 : decode cX11_may 5 = .ok (.iaload, 1) := by decide +kernel
theorem dX11_may_6 : decode cX11_may 6 = .ok (.invokestatic 139, 3) := by decide +kernel
theorem dX11_may_9 : decode cX11_may 9 = .ok (.istore_n 3, 1) := by decide +kernel
theorem dX11_may_10 : decode cX11_may 10 = .ok (.iload_n 2, 1) := by decide +kernel
theorem dX11_may_11 : decode cX11_may 11 = .ok (.iload_n 3, 1) := by decide +kernel
theorem dX11_may_12 : decode cX11_may 12 = .ok (.if_icmp .ge 17, 3) := by decide +kernel
theorem dX11_may_15 : decode cX11_may 15 = .ok (.iconst 1, 1) := by decide +kernel
theorem dX11_may_16 : decode cX11_may 16 = .ok (.aload_n 0, 1) := by decide +kernel
theorem dX11_may_17 : decode cX11_may 17 = .ok (.getfield 16, 3) := by decide +kernel
theorem dX11_may_20 : decode cX11_may 20 = .ok (.iload_n 1, 1) := by decide +kernel
theorem dX11_may_21 : decode cX11_may 21 = .ok (.iaload, 1) := by decide +kernel
theorem dX11_may_22 : decode cX11_may 22 = .ok (.i2l, 1) := by decide +kernel
theorem dX11_may_23 : decode cX11_may 23 = .ok (.iload_n 2, 1) := by decide +kernel
theorem dX11_may_24 : decode cX11_may 24 = .ok (.invokestatic 183, 3) := by decide +kernel
theorem dX11_may_27 : decode cX11_may 27 = .ok (.ishl, 1) := by decide +kernel
theorem dX11_may_28 : decode cX11_may 28 = .ok (.ireturn, 1) := by decide +kernel
theorem dX11_may_29 : decode cX11_may 29 = .ok (.iload_n 2, 1) := by decide +kernel
theorem dX11_may_30 : decode cX11_may 30 = .ok (.iload_n 3, 1) := by decide +kernel
theorem dX11_may_31 : decode cX11_may 31 = .ok (.if_icmp .ne 21, 3) := by decide +kernel
theorem dX11_may_34 : decode cX11_may 34 = .ok (.aload_n 0, 1) := by decide +kernel
theorem dX11_may_35 : decode cX11_may 35 = .ok (.getfield 19, 3) := by decide +kernel
theorem dX11_may_38 : decode cX11_may 38 = .ok (.iload_n 1, 1) := by decide +kernel
theorem dX11_may_39 : decode cX11_may 39 = .ok (.iaload, 1) := by decide +kernel
theorem dX11_may_40 : decode cX11_may 40 = .ok (.ifCond .eq 12, 3) := by decide +kernel
theorem dX11_may_43 : decode cX11_may 43 = .ok (.aload_n 0, 1) := by decide +kernel
theorem dX11_may_44 : decode cX11_may 44 = .ok (.getfield 19, 3) := by decide +kernel
theorem dX11_may_47 : decode cX11_may 47 = .ok (.iload_n 1, 1) := by decide +kernel
theorem dX11_may_48 : decode cX11_may 48 = .ok (.iaload, 1) := by decide +kernel
theorem dX11_may_49 : decode cX11_may 49 = .ok (.goto 6, 3) := by decide +kernel
theorem dX11_may_52 : decode cX11_may 52 = .ok (.sipush 1023, 3) := by decide +kernel
theorem dX11_may_55 : decode cX11_may 55 = .ok (.ireturn, 1) := by decide +kernel
theorem dX11_begins_0 : decode cX11_begins 0 = .ok (.aload_n 0, 1) := by decide +kernel
theorem dX11_begins_1 : decode cX11_begins 1 = .ok (.getfield 22, 3) := by decide +kernel
theorem dX11_begins_4 : decode cX11_begins 4 = .ok (.iload_n 1, 1) := by decide +kernel
theorem dX11_begins_5 : decode cX11_begins 5 = .ok (.iaload, 1) := by decide +kernel
theorem dX11_begins_6 : decode cX11_begins 6 = .ok (.aload_n 0, 1) := by decide +kernel
theorem dX11_begins_7 : decode cX11_begins 7 = .ok (.getfield 25, 3) := by decide +kernel
theorem dX11_begins_10 : decode cX11_begins 10 = .ok (.iload_n 2, 1) := by decide +kernel
theorem dX11_begins_11 : decode cX11_begins 11 = .ok (.iaload, 1) := by decide +kernel
theorem dX11_begins_12 : decode cX11_begins 12 = .ok (.if_icmp .le 5, 3) := by decide +kernel
theorem dX11_begins_15 : decode cX11_begins 15 = .ok (.iconst 0, 1) := by decide +kernel
theorem dX11_begins_16 : decode cX11_begins 16 = .ok (.ireturn, 1) := by decide +kernel
theorem dX11_begins_17 : decode cX11_begins 17 = .ok (.iconst 0, 1) := by decide +kernel
theorem dX11_begins_18 : decode cX11_begins 18 = .ok (.istore_n 3, 1) := by decide +kernel
theorem dX11_begins_19 : decode cX11_begins 19 = .ok (.iload_n 3, 1) := by decide +kernel
theorem dX11_begins_20 : decode cX11_begins 20 = .ok (.aload_n 0, 1) := by decide +kernel
theorem dX11_begins_21 : decode cX11_begins 21 = .ok (.getfield 22, 3) := by decide +kernel
theorem dX11_begins_24 : decode cX11_begins 24 = .ok (.iload_n 1, 1) := by decide +kernel
theorem dX11_begins_25 : decode cX11_begins 25 = .ok (.iaload, 1) := by decide +kernel
theorem dX11_begins_26 : decode cX11_begins 26 = .ok (.if_icmp .ge 27, 3) := by decide +kernel
theorem dX11_begins_29 : decode cX11_begins 29 = .ok (.aload_n 0, 1) := by decide +kernel
theorem dX11_begins_30 : decode cX11_begins 30 = .ok (.iload_n 1, 1) := by decide +kernel
theorem dX11_begins_31 : decode cX11_begins 31 = .ok (.iload_n 3, 1) := by decide +kernel
theorem dX11_begins_32 : decode cX11_begins 32 = .ok (.invokevirtual 187, 3) := by decide +kernel
theorem dX11_begins_35 : decode cX11_begins 35 = .ok (.aload_n 0, 1) := by decide +kernel
theorem dX11_begins_36 : decode cX11_begins 36 = .ok (.iload_n 2, 1) := by decide +kernel
theorem dX11_begins_37 : decode cX11_begins 37 = .ok (.iload_n 3, 1) := by decide +kernel
theorem dX11_begins_38 : decode cX11_begins 38 = .ok (.invokevirtual 187, 3) := by decide +kernel
theorem dX11_begins_41 : decode cX11_begins 41 = .ok (.iand, 1) := by decide +kernel
theorem dX11_begins_42 : decode cX11_begins 42 = .ok (.ifCond .ne 5, 3) := by decide +kernel
theorem dX11_begins_45 : decode cX11_begins 45 = .ok (.iconst 0, 1) := by decide +kernel
theorem dX11_begins_46 : decode cX11_begins 46 = .ok (.ireturn, 1) := by decide +kernel
theorem dX11_begins_47 : decode cX11_begins 47 = .ok (.iinc 3 1, 3) := by decide +kernel
theorem dX11_begins_50 : decode cX11_begins 50 = .ok (.goto (-31), 3) := by decide +kernel
theorem dX11_begins_53 : decode cX11_begins 53 = .ok (.iconst 1, 1) := by decide +kernel
theorem dX11_begins_54 : decode cX11_begins 54 = .ok (.ireturn, 1) := by decide +kernel
theorem dX11_isPair_0 : decode cX11_isPair 0 = .ok (.aload_n 0, 1) := by decide +kernel
theorem dX11_isPair_1 : decode cX11_isPair 1 = .ok (.iload_n 1, 1) := by decide +kernel
theorem dX11_isPair_2 : decode cX11_isPair 2 = .ok (.iload_n 2, 1) := by decide +kernel
theorem dX11_isPair_3 : decode cX11_isPair 3 = .ok (.invokevirtual 191, 3) := by decide +kernel
theorem dX11_isPair_6 : decode cX11_isPair 6 = .ok (.ifCond .ne 12, 3) := by decide +kernel
theorem dX11_isPair_9 : decode cX11_isPair 9 = .ok (.aload_n 0, 1) := by decide +kernel
theorem dX11_isPair_10 : decode cX11_isPair 10 = .ok (.iload_n 2, 1) := by decide +kernel
theorem dX11_isPair_11 : decode cX11_isPair 11 = .ok (.iload_n 1, 1) := by decide +kernel
theorem dX11_isPair_12 : decode cX11_isPair 12 = .ok (.invokevirtual 191, 3) := by decide +kernel
theorem dX11_isPair_15 : decode cX11_isPair 15 = .ok (.ifCond .eq 7, 3) := by decide +kernel
theorem dX11_isPair_18 : decode cX11_isPair 18 = .ok (.iconst 1, 1) := by decide +kernel
theorem dX11_isPair_19 : decode cX11_isPair 19 = .ok (.goto 4, 3) := by decide +kernel
theorem dX11_isPair_22 : decode cX11_isPair 22 = .ok (.iconst 0, 1) := by decide +kernel
theorem dX11_isPair_23 : decode cX11_isPair 23 = .ok (.ireturn, 1) := by decide +kernel
theorem dX11_pairs_0 : decode cX11_pairs 0 = .ok (.iload_n 1, 1) := by decide +kernel
theorem dX11_pairs_1 : decode cX11_pairs 1 = .ok (.invokestatic 194, 3) := by decide +kernel
theorem dX11_pairs_4 : decode cX11_pairs 4 = .ok (.ifCond .ne 6, 3) := by decide +kernel
theorem dX11_pairs_7 : decode cX11_pairs 7 = .ok (.bipush (-2), 2) := by decide +kernel
theorem dX11_pairs_9 : decode cX11_pairs 9 = .ok (.ireturn, 1) := by decide +kernel
theorem dX11_pairs_10 : decode cX11_pairs 10 = .ok (.iconst 0, 1) := by decide +kernel
theorem dX11_pairs_11 : decode cX11_pairs 11 = .ok (.istore_n 2, 1) := by decide +kernel
theorem dX11_pairs_12 : decode cX11_pairs 12 = .ok (.iconst 0, 1) := by decide +kernel
theorem dX11_pairs_13 : decode cX11_pairs 13 = .ok (.istore_n 3, 1) := by decide +kernel
theorem dX11_pairs_14 : decode cX11_pairs 14 = .ok (.iload_n 3, 1) := by decide +kernel
theorem dX11_pairs_15 : decode cX11_pairs 15 = .ok (.aload_n 0, 1) := by decide +kernel
theorem dX11_pairs_16 : decode cX11_pairs 16 = .ok (.getfield 130, 3) := by decide +kernel
theorem dX11_pairs_19 : decode cX11_pairs 19 = .ok (.if_icmp .ge 66, 3) := by decide +kernel
theorem dX11_pairs_22 : decode cX11_pairs 22 = .ok (.iload_n 3, 1) := by decide +kernel
theorem dX11_pairs_23 : decode cX11_pairs 23 = .ok (.iconst 1, 1) := by decide +kernel
theorem dX11_pairs_24 : decode cX11_pairs 24 = .ok (.iadd, 1) := by decide +kernel
theorem dX11_pairs_25 : decode cX11_pairs 25 = .ok (.istore 4, 2) := by decide +kernel
theorem dX11_pairs_27 : decode cX11_pairs 27 = .ok (.iload 4, 2) := by decide +kernel
theorem dX11_pairs_29 : decode cX11_pairs 29 = .ok (.aload_n 0, 1) := by decide +kernel
theorem dX11_pairs_30 : decode cX11_pairs 30 = .ok (.getfield 130, 3) := by decide +kernel
theorem dX11_pairs_33 : decode cX11_pairs 33 = .ok (.if_icmp .ge 46, 3) := by decide +kernel
theorem dX11_pairs_36 : decode cX11_pairs 36 = .ok (.iload_n 2, 1) := by decide +kernel
theorem dX11_pairs_37 : decode cX11_pairs 37 = .ok (.aload_n 0, 1) := by decide +kernel
theorem dX11_pairs_38 : decode cX11_pairs 38 = .ok (.iload_n 3, 1) := by decide +kernel
theorem dX11_pairs_39 : decode cX11_pairs 39 = .ok (.iload_n 1, 1) := by decide +kernel
theorem dX11_pairs_40 : decode cX11_pairs 40 = .ok (.invokevirtual 197, 3) := by decide +kernel
theorem dX11_pairs_43 : decode cX11_pairs 43 = .ok (.ifCond .eq 27, 3) := by decide +kernel
theorem dX11_pairs_46 : decode cX11_pairs 46 = .ok (.aload_n 0, 1) := by decide +kernel
theorem dX11_pairs_47 : decode cX11_pairs 47 = .ok (.iload 4, 2) := by decide +kernel
theorem dX11_pairs_49 : decode cX11_pairs 49 = .ok (.iload_n 1, 1) := by decide +kernel
theorem dX11_pairs_50 : decode cX11_pairs 50 = .ok (.invokevirtual 197, 3) := by decide +kernel
theorem dX11_pairs_53 : decode cX11_pairs 53 = .ok (.ifCond .eq 17, 3) := by decide +kernel
theorem dX11_pairs_56 : decode cX11_pairs 56 = .ok (.aload_n 0, 1) := by decide +kernel
theorem dX11_pairs_57 : decode cX11_pairs 57 = .ok (.iload_n 3, 1) := by decide +kernel
theorem dX11_pairs_58 : decode cX11_pairs 58 = .ok (.iload 4, 2) := by decide +kernel
theorem dX11_pairs_60 : decode cX11_pairs 60 = .ok (.invokevirtual 200, 3) := by decide +kernel
theorem dX11_pairs_63 : decode cX11_pairs 63 = .ok (.ifCond .eq 7, 3) := by decide +kernel
theorem dX11_pairs_66 : decode cX11_pairs 66 = .ok (.iconst 1, 1) := by decide +kernel
theorem dX11_pairs_67 : decode cX11_pairs 67 = .ok (.goto 4, 3) := by decide +kernel
theorem dX11_pairs_70 : decode cX11_pairs 70 = .ok (.iconst 0, 1) := by decide +kernel
theorem dX11_pairs_71 : decode cX11_pairs 71 = .ok (.iadd, 1) := by decide +kernel
theorem dX11_pairs_72 : decode cX11_pairs 72 = .ok (.istore_n 2, 1) := by decide +kernel
theorem dX11_pairs_73 : decode cX11_pairs 73 = .ok (.iinc 4 1, 3) := by decide +kernel
theorem dX11_pairs_76 : decode cX11_pairs 76 = .ok (.goto (-49), 3) := by decide +kernel
theorem dX11_pairs_79 : decode cX11_pairs 79 = .ok (.iinc 3 1, 3) := by decide +kernel
theorem dX11_pairs_82 : decode cX11_pairs 82 = .ok (.goto (-68), 3) := by decide +kernel
theorem dX11_pairs_85 : decode cX11_pairs 85 = .ok (.iload_n 2, 1) := by decide +kernel
theorem dX11_pairs_86 : decode cX11_pairs 86 = .ok (.ireturn, 1) := by decide +kernel
theorem dX11_pair_0 : decode cX11_pair 0 = .ok (.iload_n 1, 1) := by decide +kernel
theorem dX11_pair_1 : decode cX11_pair 1 = .ok (.invokestatic 194, 3) := by decide +kernel
theorem dX11_pair_4 : decode cX11_pair 4 = .ok (.ifCond .eq 17, 3) := by decide +kernel
theorem dX11_pair_7 : decode cX11_pair 7 = .ok (.iload_n 2, 1) := by decide +kernel
theorem dX11_pair_8 : decode cX11_pair 8 = .ok (.ifCond .lt 13, 3) := by decide +kernel
theorem dX11_pair_11 : decode cX11_pair 11 = .ok (.iload_n 3, 1) := by decide +kernel
theorem dX11_pair_12 : decode cX11_pair 12 = .ok (.i2l, 1) := by decide +kernel
theorem dX11_pair_13 : decode cX11_pair 13 = .ok (.lconst 0, 1) := by decide +kernel
theorem dX11_pair_14 : decode cX11_pair 14 = .ok (.lconst 1, 1) := by decide +kernel
theorem dX11_pair_15 : decode cX11_pair 15 = .ok (.invokestatic 110, 3) := by decide +kernel
theorem dX11_pair_18 : decode cX11_pair 18 = .ok (.ifCond .ne 5, 3) := by decide +kernel
theorem dX11_pair_21 : decode cX11_pair 21 = .ok (.iconst (-1), 1) := by decide +kernel
theorem dX11_pair_22 : decode cX11_pair 22 = .ok (.ireturn, 1) := by decide +kernel
theorem dX11_pair_23 : decode cX11_pair 23 = .ok (.iload_n 2, 1) := by decide +kernel
theorem dX11_pair_24 : decode cX11_pair 24 = .ok (.istore 4, 2) := by decide +kernel
theorem dX11_pair_26 : decode cX11_pair 26 = .ok (.iconst 0, 1) := by decide +kernel
theorem dX11_pair_27 : decode cX11_pair 27 = .ok (.istore 5, 2) := by decide +kernel
theorem dX11_pair_29 : decode cX11_pair 29 = .ok (.iload 5, 2) := by decide +kernel
theorem dX11_pair_31 : decode cX11_pair 31 = .ok (.aload_n 0, 1) := by decide +kernel
theorem dX11_pair_32 : decode cX11_pair 32 = .ok (.getfield 130, 3) := by decide +kernel
theorem dX11_pair_35 : decode cX11_pair 35 = .ok (.if_icmp .ge 87, 3) := by decide +kernel
theorem dX11_pair_38 : decode cX11_pair 38 = .ok (.aload_n 0, 1) := by decide +kernel
theorem dX11_pair_39 : decode cX11_pair 39 = .ok (.iload 5, 2) := by decide +kernel
theorem dX11_pair_41 : decode cX11_pair 41 = .ok (.iload_n 1, 1) := by decide +kernel
theorem dX11_pair_42 : decode cX11_pair 42 = .ok (.invokevirtual 197, 3) := by decide +kernel
theorem dX11_pair_45 : decode cX11_pair 45 = .ok (.ifCond .ne 6, 3) := by decide +kernel
theorem dX11_pair_48 : decode cX11_pair 48 = .ok (.goto 68, 3) := by decide +kernel
theorem dX11_pair_51 : decode cX11_pair 51 = .ok (.iload 5, 2) := by decide +kernel
theorem dX11_pair_53 : decode cX11_pair 53 = .ok (.iconst 1, 1) := by decide +kernel
theorem dX11_pair_54 : decode cX11_pair 54 = .ok (.iadd, 1) := by decide +kernel
theorem dX11_pair_55 : decode cX11_pair 55 = .ok (.istore 6, 2) := by decide +kernel
theorem dX11_pair_57 : decode cX11_pair 57 = .ok (.iload 6, 2) := by decide +kernel
theorem dX11_pair_59 : decode cX11_pair 59 = .ok (.aload_n 0, 1) := by decide +kernel
theorem dX11_pair_60 : decode cX11_pair 60 = .ok (.getfield 130, 3) := by decide +kernel
theorem dX11_pair_63 : decode cX11_pair 63 = .ok (.if_icmp .ge 53, 3) := by decide +kernel
theorem dX11_pair_66 : decode cX11_pair 66 = .ok (.aload_n 0, 1) := by decide +kernel
theorem dX11_pair_67 : decode cX11_pair 67 = .ok (.iload 6, 2) := by decide +kernel
theorem dX11_pair_69 : decode cX11_pair 69 = .ok (.iload_n 1, 1) := by decide +kernel
theorem dX11_pair_70 : decode cX11_pair 70 = .ok (.invokevirtual 197, 3) := by decide +kernel
theorem dX11_pair_73 : decode cX11_pair 73 = .ok (.ifCond .eq 37, 3) := by decide +kernel
theorem dX11_pair_76 : decode cX11_pair 76 = .ok (.aload_n 0, 1) := by decide +kernel
theorem dX11_pair_77 : decode cX11_pair 77 = .ok (.iload 5, 2) := by decide +kernel
theorem dX11_pair_79 : decode cX11_pair 79 = .ok (.iload 6, 2) := by decide +kernel
theorem dX11_pair_81 : decode cX11_pair 81 = .ok (.invokevirtual 200, 3) := by decide +kernel
theorem dX11_pair_84 : decode cX11_pair 84 = .ok (.ifCond .ne 6, 3) := by decide +kernel
theorem dX11_pair_87 : decode cX11_pair 87 = .ok (.goto 23, 3) := by decide +kernel
theorem dX11_pair_90 : decode cX11_pair 90 = .ok (.iload 4, 2) := by decide +kernel
theorem dX11_pair_92 : decode cX11_pair 92 = .ok (.ifCond .ne 15, 3) := by decide +kernel
theorem dX11_pair_95 : decode cX11_pair 95 = .ok (.iload_n 3, 1) := by decide +kernel
theorem dX11_pair_96 : decode cX11_pair 96 = .ok (.ifCond .ne 8, 3) := by decide +kernel
theorem dX11_pair_99 : decode cX11_pair 99 = .ok (.iload 5, 2) := by decide +kernel
theorem dX11_pair_101 : decode cX11_pair 101 = .ok (.goto 5, 3) := by decide +kernel
theorem dX11_pair_104 : decode cX11_pair 104 = .ok (.iload 6, 2) := by decide +kernel
theorem dX11_pair_106 : decode cX11_pair 106 = .ok (.ireturn, 1) := by decide +kernel
theorem dX11_pair_107 : decode cX11_pair 107 = .ok (.iinc 4 (-1), 3) := by decide +kernel
theorem dX11_pair_110 : decode cX11_pair 110 = .ok (.iinc 6 1, 3) := by decide +kernel
theorem dX11_pair_113 : decode cX11_pair 113 = .ok (.goto (-56), 3) := by decide +kernel
theorem dX11_pair_116 : decode cX11_pair 116 = .ok (.iinc 5 1, 3) := by decide +kernel
theorem dX11_pair_119 : decode cX11_pair 119 = .ok (.goto (-90), 3) := by decide +kernel
theorem dX11_pair_122 : decode cX11_pair 122 = .ok (.iconst (-1), 1) := by decide +kernel
theorem dX11_pair_123 : decode cX11_pair 123 = .ok (.ireturn, 1) := by decide +kernel
theorem dX11_follow_0 : decode cX11_follow 0 = .ok (.iload_n 1, 1) := by decide +kernel
theorem dX11_follow_1 : decode cX11_follow 1 = .ok (.istore 5, 2) := by decide +kernel
theorem dX11_follow_3 : decode cX11_follow 3 = .ok (.aload_n 0, 1) := by decide +kernel
theorem dX11_follow_4 : decode cX11_follow 4 = .ok (.getfield 31, 3) := by decide +kernel
theorem dX11_follow_7 : decode cX11_follow 7 = .ok (.iload 5, 2) := by decide +kernel
theorem dX11_follow_9 : decode cX11_follow 9 = .ok (.iaload, 1) := by decide +kernel
theorem dX11_follow_10 : decode cX11_follow 10 = .ok (.iconst (-1), 1) := by decide +kernel
theorem dX11_follow_11 : decode cX11_follow 11 = .ok (.if_icmp .eq 75, 3) := by decide +kernel
theorem dX11_follow_14 : decode cX11_follow 14 = .ok (.iload 4, 2) := by decide +kernel
theorem dX11_follow_16 : decode cX11_follow 16 = .ok (.aload_n 0, 1) := by decide +kernel
theorem dX11_follow_17 : decode cX11_follow 17 = .ok (.getfield 31, 3) := by decide +kernel
theorem dX11_follow_20 : decode cX11_follow 20 = .ok (.iload 5, 2) := by decide +kernel
theorem dX11_follow_22 : decode cX11_follow 22 = .ok (.iaload, 1) := by decide +kernel
theorem dX11_follow_23 : decode cX11_follow 23 = .ok (.if_icmp .lt 63, 3) := by decide +kernel
theorem dX11_follow_26 : decode cX11_follow 26 = .ok (.aload_n 0, 1) := by decide +kernel
theorem dX11_follow_27 : decode cX11_follow 27 = .ok (.getfield 37, 3) := by decide +kernel
theorem dX11_follow_30 : decode cX11_follow 30 = .ok (.iload 5, 2) := by decide +kernel
theorem dX11_follow_32 : decode cX11_follow 32 = .ok (.iaload, 1) := by decide +kernel
theorem dX11_follow_33 : decode cX11_follow 33 = .ok (.aload_n 0, 1) := by decide +kernel
theorem dX11_follow_34 : decode cX11_follow 34 = .ok (.getfield 31, 3) := by decide +kernel
theorem dX11_follow_37 : decode cX11_follow 37 = .ok (.iload 5, 2) := by decide +kernel
theorem dX11_follow_39 : decode cX11_follow 39 = .ok (.iaload, 1) := by decide +kernel
theorem dX11_follow_40 : decode cX11_follow 40 = .ok (.if_icmp .eq 5, 3) := by decide +kernel
theorem dX11_follow_43 : decode cX11_follow 43 = .ok (.iconst (-1), 1) := by decide +kernel
theorem dX11_follow_44 : decode cX11_follow 44 = .ok (.ireturn, 1) := by decide +kernel
theorem dX11_follow_45 : decode cX11_follow 45 = .ok (.aload_n 0, 1) := by decide +kernel
theorem dX11_follow_46 : decode cX11_follow 46 = .ok (.getfield 43, 3) := by decide +kernel
theorem dX11_follow_49 : decode cX11_follow 49 = .ok (.iload 5, 2) := by decide +kernel
theorem dX11_follow_51 : decode cX11_follow 51 = .ok (.iaload, 1) := by decide +kernel
theorem dX11_follow_52 : decode cX11_follow 52 = .ok (.lload_n 2, 1) := by decide +kernel
theorem dX11_follow_53 : decode cX11_follow 53 = .ok (.iconst 0, 1) := by decide +kernel
theorem dX11_follow_54 : decode cX11_follow 54 = .ok (.invokestatic 183, 3) := by decide +kernel
theorem dX11_follow_57 : decode cX11_follow 57 = .ok (.ishr, 1) := by decide +kernel
theorem dX11_follow_58 : decode cX11_follow 58 = .ok (.iconst 1, 1) := by decide +kernel
theorem dX11_follow_59 : decode cX11_follow 59 = .ok (.iand, 1) := by decide +kernel
theorem dX11_follow_60 : decode cX11_follow 60 = .ok (.iconst 1, 1) := by decide +kernel
theorem dX11_follow_61 : decode cX11_follow 61 = .ok (.if_icmp .ne 13, 3) := by decide +kernel
theorem dX11_follow_64 : decode cX11_follow 64 = .ok (.aload_n 0, 1) := by decide +kernel
theorem dX11_follow_65 : decode cX11_follow 65 = .ok (.getfield 46, 3) := by decide +kernel
theorem dX11_follow_68 : decode cX11_follow 68 = .ok (.iload 5, 2) := by decide +kernel
theorem dX11_follow_70 : decode cX11_follow 70 = .ok (.iaload, 1) := by decide +kernel
theorem dX11_follow_71 : decode cX11_follow 71 = .ok (.goto 10, 3) := by decide +kernel
theorem dX11_follow_74 : decode cX11_follow 74 = .ok (.aload_n 0, 1) := by decide +kernel
theorem dX11_follow_75 : decode cX11_follow 75 = .ok (.getfield 40, 3) := by decide +kernel
theorem dX11_follow_78 : decode cX11_follow 78 = .ok (.iload 5, 2) := by decide +kernel
theorem dX11_follow_80 : decode cX11_follow 80 = .ok (.iaload, 1) := by decide +kernel
theorem dX11_follow_81 : decode cX11_follow 81 = .ok (.istore 5, 2) := by decide +kernel
theorem dX11_follow_83 : decode cX11_follow 83 = .ok (.goto (-80), 3) := by decide +kernel
theorem dX11_follow_86 : decode cX11_follow 86 = .ok (.iload 4, 2) := by decide +kernel
theorem dX11_follow_88 : decode cX11_follow 88 = .ok (.aload_n 0, 1) := by decide +kernel
theorem dX11_follow_89 : decode cX11_follow 89 = .ok (.getfield 28, 3) := by decide +kernel
theorem dX11_follow_92 : decode cX11_follow 92 = .ok (.iload 5, 2) := by decide +kernel
theorem dX11_follow_94 : decode cX11_follow 94 = .ok (.iaload, 1) := by decide +kernel
theorem dX11_follow_95 : decode cX11_follow 95 = .ok (.if_icmp .lt 8, 3) := by decide +kernel
theorem dX11_follow_98 : decode cX11_follow 98 = .ok (.iload 5, 2) := by decide +kernel
theorem dX11_follow_100 : decode cX11_follow 100 = .ok (.goto 4, 3) := by decide +kernel
theorem dX11_follow_103 : decode cX11_follow 103 = .ok (.iconst (-1), 1) := by decide +kernel
theorem dX11_follow_104 : decode cX11_follow 104 = .ok (.ireturn, 1) := by decide +kernel
theorem dX11_blockOf_0 : decode cX11_blockOf 0 = .ok (.iload_n 2, 1) := by decide +kernel
theorem dX11_blockOf_1 : decode cX11_blockOf 1 = .ok (.aload_n 0, 1) := by decide +kernel
theorem dX11_blockOf_2 : decode cX11_blockOf 2 = .ok (.getfield 59, 3) := by decide +kernel
theorem dX11_blockOf_5 : decode cX11_blockOf 5 = .ok (.iload_n 1, 1) := by decide +kernel
theorem dX11_blockOf_6 : decode cX11_blockOf 6 = .ok (.iaload, 1) := by decide +kernel
theorem dX11_blockOf_7 : decode cX11_blockOf 7 = .ok (.if_icmp .lt 23, 3) := by decide +kernel
theorem dX11_blockOf_10 : decode cX11_blockOf 10 = .ok (.aload_n 0, 1) := by decide +kernel
theorem dX11_blockOf_11 : decode cX11_blockOf 11 = .ok (.getfield 62, 3) := by decide +kernel
theorem dX11_blockOf_14 : decode cX11_blockOf 14 = .ok (.iload_n 1, 1) := by decide +kernel
theorem dX11_blockOf_15 : decode cX11_blockOf 15 = .ok (.iaload, 1) := by decide +kernel
theorem dX11_blockOf_16 : decode cX11_blockOf 16 = .ok (.iconst (-1), 1) := by decide +kernel
theorem dX11_blockOf_17 : decode cX11_blockOf 17 = .ok (.if_icmp .eq 15, 3) := by decide +kernel
theorem dX11_blockOf_20 : decode cX11_blockOf 20 = .ok (.iload_n 2, 1) := by decide +kernel
theorem dX11_blockOf_21 : decode cX11_blockOf 21 = .ok (.aload_n 0, 1) := by decide +kernel
theorem dX11_blockOf_22 : decode cX11_blockOf 22 = .ok (.getfield 62, 3) := by decide +kernel
theorem dX11_blockOf_25 : decode cX11_blockOf 25 = .ok (.iload_n 1, 1) := by decide +kernel
theorem dX11_blockOf_26 : decode cX11_blockOf 26 = .ok (.iaload, 1) := by decide +kernel
theorem dX11_blockOf_27 : decode cX11_blockOf 27 = .ok (.if_icmp .lt 5, 3) := by decide +kernel
theorem dX11_blockOf_30 : decode cX11_blockOf 30 = .ok (.iconst (-1), 1) := by decide +kernel
theorem dX11_blockOf_31 : decode cX11_blockOf 31 = .ok (.ireturn, 1) := by decide +kernel
theorem dX11_blockOf_32 : decode cX11_blockOf 32 = .ok (.aload_n 0, 1) := by decide +kernel
theorem dX11_blockOf_33 : decode cX11_blockOf 33 = .ok (.aload_n 0, 1) := by decide +kernel
theorem dX11_blockOf_34 : decode cX11_blockOf 34 = .ok (.getfield 53, 3) := by decide +kernel
theorem dX11_blockOf_37 : decode cX11_blockOf 37 = .ok (.iload_n 1, 1) := by decide +kernel
theorem dX11_blockOf_38 : decode cX11_blockOf 38 = .ok (.iaload, 1) := by decide +kernel
theorem dX11_blockOf_39 : decode cX11_blockOf 39 = .ok (.aload_n 0, 1) := by decide +kernel
theorem dX11_blockOf_40 : decode cX11_blockOf 40 = .ok (.getfield 56, 3) := by decide +kernel
theorem dX11_blockOf_43 : decode cX11_blockOf 43 = .ok (.iload_n 1, 1) := by decide +kernel
theorem dX11_blockOf_44 : decode cX11_blockOf 44 = .ok (.laload, 1) := by decide +kernel
theorem dX11_blockOf_45 : decode cX11_blockOf 45 = .ok (.iload_n 2, 1) := by decide +kernel
theorem dX11_blockOf_46 : decode cX11_blockOf 46 = .ok (.invokevirtual 203, 3) := by decide +kernel
theorem dX11_blockOf_49 : decode cX11_blockOf 49 = .ok (.ireturn, 1) := by decide +kernel
theorem dX11_lineOn_0 : decode cX11_lineOn 0 = .ok (.iconst 0, 1) := by decide +kernel
theorem dX11_lineOn_1 : decode cX11_lineOn 1 = .ok (.istore 5, 2) := by decide +kernel
theorem dX11_lineOn_3 : decode cX11_lineOn 3 = .ok (.iload 5, 2) := by decide +kernel
theorem dX11_lineOn_5 : decode cX11_lineOn 5 = .ok (.aload_n 0, 1) := by decide +kernel
theorem dX11_lineOn_6 : decode cX11_lineOn 6 = .ok (.getfield 207, 3) := by decide +kernel
theorem dX11_lineOn_9 : decode cX11_lineOn 9 = .ok (.if_icmp .ge 36, 3) := by decide +kernel
theorem dX11_lineOn_12 : decode cX11_lineOn 12 = .ok (.aload_n 0, 1) := by decide +kernel
theorem dX11_lineOn_13 : decode cX11_lineOn 13 = .ok (.getfield 56, 3) := by decide +kernel
theorem dX11_lineOn_16 : decode cX11_lineOn 16 = .ok (.iload 5, 2) := by decide +kernel
theorem dX11_lineOn_18 : decode cX11_lineOn 18 = .ok (.laload, 1) := by decide +kernel
theorem dX11_lineOn_19 : decode cX11_lineOn 19 = .ok (.lload_n 2, 1) := by decide +kernel
theorem dX11_lineOn_20 : decode cX11_lineOn 20 = .ok (.lcmp, 1) := by decide +kernel
theorem dX11_lineOn_21 : decode cX11_lineOn 21 = .ok (.ifCond .ne 18, 3) := by decide +kernel
theorem dX11_lineOn_24 : decode cX11_lineOn 24 = .ok (.aload_n 0, 1) := by decide +kernel
theorem dX11_lineOn_25 : decode cX11_lineOn 25 = .ok (.iload 5, 2) := by decide +kernel
theorem dX11_lineOn_27 : decode cX11_lineOn 27 = .ok (.iload 4, 2) := by decide +kernel
theorem dX11_lineOn_29 : decode cX11_lineOn 29 = .ok (.invokevirtual 210, 3) := by decide +kernel
theorem dX11_lineOn_32 : decode cX11_lineOn 32 = .ok (.iload_n 1, 1) := by decide +kernel
theorem dX11_lineOn_33 : decode cX11_lineOn 33 = .ok (.if_icmp .ne 6, 3) := by decide +kernel
theorem dX11_lineOn_36 : decode cX11_lineOn 36 = .ok (.iload 5, 2) := by decide +kernel
theorem dX11_lineOn_38 : decode cX11_lineOn 38 = .ok (.ireturn, 1) := by decide +kernel
theorem dX11_lineOn_39 : decode cX11_lineOn 39 = .ok (.iinc 5 1, 3) := by decide +kernel
theorem dX11_lineOn_42 : decode cX11_lineOn 42 = .ok (.goto (-39), 3) := by decide +kernel
theorem dX11_lineOn_45 : decode cX11_lineOn 45 = .ok (.iconst (-1), 1) := by decide +kernel
theorem dX11_lineOn_46 : decode cX11_lineOn 46 = .ok (.ireturn, 1) := by decide +kernel
theorem dX11_line_0 : decode cX11_line 0 = .ok (.aload_n 0, 1) := by decide +kernel
theorem dX11_line_1 : decode cX11_line 1 = .ok (.iload_n 1, 1) := by decide +kernel
theorem dX11_line_2 : decode cX11_line 2 = .ok (.invokevirtual 166, 3) := by decide +kernel
theorem dX11_line_5 : decode cX11_line 5 = .ok (.ifCond .eq 24, 3) := by decide +kernel
theorem dX11_line_8 : decode cX11_line 8 = .ok (.aload_n 0, 1) := by decide +kernel
theorem dX11_line_9 : decode cX11_line 9 = .ok (.getfield 7, 3) := by decide +kernel
theorem dX11_line_12 : decode cX11_line 12 = .ok (.iload_n 1, 1) := by decide +kernel
theorem dX11_line_13 : decode cX11_line 13 = .ok (.iaload, 1) := by decide +kernel
theorem dX11_line_14 : decode cX11_line 14 = .ok (.ifCond .ne 15, 3) := by decide +kernel
theorem dX11_line_17 : decode cX11_line 17 = .ok (.aload_n 0, 1) := by decide +kernel
theorem dX11_line_18 : decode cX11_line 18 = .ok (.iload_n 1, 1) := by decide +kernel
theorem dX11_line_19 : decode cX11_line 19 = .ok (.aload_n 0, 1) := by decide +kernel
theorem dX11_line_20 : decode cX11_line 20 = .ok (.getfield 114, 3) := by decide +kernel
theorem dX11_line_23 : decode cX11_line 23 = .ok (.invokevirtual 197, 3) := by decide +kernel
theorem dX11_line_26 : decode cX11_line 26 = .ok (.ifCond .ne 6, 3) := by decide +kernel
theorem dX11_line_29 : decode cX11_line 29 = .ok (.bipush (-2), 2) := by decide +kernel
theorem dX11_line_31 : decode cX11_line 31 = .ok (.ireturn, 1) := by decide +kernel
theorem dX11_line_32 : decode cX11_line 32 = .ok (.iload_n 2, 1) := by decide +kernel
theorem dX11_line_33 : decode cX11_line 33 = .ok (.i2l, 1) := by decide +kernel
theorem dX11_line_34 : decode cX11_line 34 = .ok (.invokestatic 122, 3) := by decide +kernel
theorem dX11_line_37 : decode cX11_line 37 = .ok (.aload_n 0, 1) := by decide +kernel
theorem dX11_line_38 : decode cX11_line 38 = .ok (.getfield 22, 3) := by decide +kernel
theorem dX11_line_41 : decode cX11_line 41 = .ok (.iload_n 1, 1) := by decide +kernel
theorem dX11_line_42 : decode cX11_line 42 = .ok (.iaload, 1) := by decide +kernel
theorem dX11_line_43 : decode cX11_line 43 = .ok (.aload_n 0, 1) := by decide +kernel
theorem dX11_line_44 : decode cX11_line 44 = .ok (.getfield 16, 3) := by decide +kernel
theorem dX11_line_47 : decode cX11_line 47 = .ok (.iload_n 1, 1) := by decide +kernel
theorem dX11_line_48 : decode cX11_line 48 = .ok (.iaload, 1) := by decide +kernel
theorem dX11_line_49 : decode cX11_line 49 = .ok (.invokestatic 139, 3) := by decide +kernel
theorem dX11_line_52 : decode cX11_line 52 = .ok (.isub, 1) := by decide +kernel
theorem dX11_line_53 : decode cX11_line 53 = .ok (.if_icmp .ne 21, 3) := by decide +kernel
theorem dX11_line_56 : decode cX11_line 56 = .ok (.aload_n 0, 1) := by decide +kernel
theorem dX11_line_57 : decode cX11_line 57 = .ok (.getfield 19, 3) := by decide +kernel
theorem dX11_line_60 : decode cX11_line 60 = .ok (.iload_n 1, 1) := by decide +kernel
theorem dX11_line_61 : decode cX11_line 61 = .ok (.iaload, 1) := by decide +kernel
theorem dX11_line_62 : decode cX11_line 62 = .ok (.iload_n 2, 1) := by decide +kernel
theorem dX11_line_63 : decode cX11_line 63 = .ok (.i2l, 1) := by decide +kernel
theorem dX11_line_64 : decode cX11_line 64 = .ok (.iconst 0, 1) := by decide +kernel
theorem dX11_line_65 : decode cX11_line 65 = .ok (.invokestatic 183, 3) := by decide +kernel
theorem dX11_line_68 : decode cX11_line 68 = .ok (.ishr, 1) := by decide +kernel
theorem dX11_line_69 : decode cX11_line 69 = .ok (.iconst 1, 1) := by decide +kernel
theorem dX11_line_70 : decode cX11_line 70 = .ok (.iand, 1) := by decide +kernel
theorem dX11_line_71 : decode cX11_line 71 = .ok (.ifCond .ne 6, 3) := by decide +kernel
theorem dX11_line_74 : decode cX11_line 74 = .ok (.bipush (-2), 2) := by decide +kernel
theorem dX11_line_76 : decode cX11_line 76 = .ok (.ireturn, 1) := by decide +kernel
theorem dX11_line_77 : decode cX11_line 77 = .ok (.aload_n 0, 1) := by decide +kernel
theorem dX11_line_78 : decode cX11_line 78 = .ok (.iload_n 1, 1) := by decide +kernel
theorem dX11_line_79 : decode cX11_line 79 = .ok (.iload_n 2, 1) := by decide +kernel
theorem dX11_line_80 : decode cX11_line 80 = .ok (.i2l, 1) := by decide +kernel
theorem dX11_line_81 : decode cX11_line 81 = .ok (.aload_n 0, 1) := by decide +kernel
theorem dX11_line_82 : decode cX11_line 82 = .ok (.getfield 114, 3) := by decide +kernel
theorem dX11_line_85 : decode cX11_line 85 = .ok (.invokevirtual 213, 3) := by decide +kernel
theorem dX11_line_88 : decode cX11_line 88 = .ok (.iconst (-1), 1) := by decide +kernel
theorem dX11_line_89 : decode cX11_line 89 = .ok (.if_icmp .eq 5, 3) := by decide +kernel
theorem dX11_line_92 : decode cX11_line 92 = .ok (.iconst (-1), 1) := by decide +kernel
theorem dX11_line_93 : decode cX11_line 93 = .ok (.ireturn, 1) := by decide +kernel
theorem dX11_line_94 : decode cX11_line 94 = .ok (.aload_n 0, 1) := by decide +kernel
theorem dX11_line_95 : decode cX11_line 95 = .ok (.getfield 207, 3) := by decide +kernel
theorem dX11_line_98 : decode cX11_line 98 = .ok (.sipush 300, 3) := by decide +kernel
theorem dX11_line_101 : decode cX11_line 101 = .ok (.if_icmp .ne 6, 3) := by decide +kernel
theorem dX11_line_104 : decode cX11_line 104 = .ok (.bipush (-3), 2) := by decide +kernel
theorem dX11_line_106 : decode cX11_line 106 = .ok (.ireturn, 1) := by decide +kernel
theorem dX11_line_107 : decode cX11_line 107 = .ok (.aload_n 0, 1) := by decide +kernel
theorem dX11_line_108 : decode cX11_line 108 = .ok (.getfield 53, 3) := by decide +kernel
theorem dX11_line_111 : decode cX11_line 111 = .ok (.aload_n 0, 1) := by decide +kernel
theorem dX11_line_112 : decode cX11_line 112 = .ok (.getfield 207, 3) := by decide +kernel
theorem dX11_line_115 : decode cX11_line 115 = .ok (.iload_n 1, 1) := by decide +kernel
theorem dX11_line_116 : decode cX11_line 116 = .ok (.iastore, 1) := by decide +kernel
theorem dX11_line_117 : decode cX11_line 117 = .ok (.aload_n 0, 1) := by decide +kernel
theorem dX11_line_118 : decode cX11_line 118 = .ok (.getfield 56, 3) := by decide +kernel
theorem dX11_line_121 : decode cX11_line 121 = .ok (.aload_n 0, 1) := by decide +kernel
theorem dX11_line_122 : decode cX11_line 122 = .ok (.getfield 207, 3) := by decide +kernel
theorem dX11_line_125 : decode cX11_line 125 = .ok (.iload_n 2, 1) := by decide +kernel
theorem dX11_line_126 : decode cX11_line 126 = .ok (.i2l, 1) := by decide +kernel
theorem dX11_line_127 : decode cX11_line 127 = .ok (.lastore, 1) := by decide +kernel
theorem dX11_line_128 : decode cX11_line 128 = .ok (.aload_n 0, 1) := by decide +kernel
theorem dX11_line_129 : decode cX11_line 129 = .ok (.getfield 59, 3) := by decide +kernel
theorem dX11_line_132 : decode cX11_line 132 = .ok (.aload_n 0, 1) := by decide +kernel
theorem dX11_line_133 : decode cX11_line 133 = .ok (.getfield 207, 3) := by decide +kernel
theorem dX11_line_136 : decode cX11_line 136 = .ok (.aload_n 0, 1) := by decide +kernel
theorem dX11_line_137 : decode cX11_line 137 = .ok (.getfield 114, 3) := by decide +kernel
theorem dX11_line_140 : decode cX11_line 140 = .ok (.iastore, 1) := by decide +kernel
theorem dX11_line_141 : decode cX11_line 141 = .ok (.aload_n 0, 1) := by decide +kernel
theorem dX11_line_142 : decode cX11_line 142 = .ok (.getfield 62, 3) := by decide +kernel
theorem dX11_line_145 : decode cX11_line 145 = .ok (.aload_n 0, 1) := by decide +kernel
theorem dX11_line_146 : decode cX11_line 146 = .ok (.getfield 207, 3) := by decide +kernel
theorem dX11_line_149 : decode cX11_line 149 = .ok (.iconst (-1), 1) := by decide +kernel
theorem dX11_line_150 : decode cX11_line 150 = .ok (.iastore, 1) := by decide +kernel
theorem dX11_line_151 : decode cX11_line 151 = .ok (.aload_n 0, 1) := by decide +kernel
theorem dX11_line_152 : decode cX11_line 152 = .ok (.dup, 1) := by decide +kernel
theorem dX11_line_153 : decode cX11_line 153 = .ok (.getfield 207, 3) := by decide +kernel
theorem dX11_line_156 : decode cX11_line 156 = .ok (.iconst 1, 1) := by decide +kernel
theorem dX11_line_157 : decode cX11_line 157 = .ok (.iadd, 1) := by decide +kernel
theorem dX11_line_158 : decode cX11_line 158 = .ok (.putfield 207, 3) := by decide +kernel
theorem dX11_line_161 : decode cX11_line 161 = .ok (.aload_n 0, 1) := by decide +kernel
theorem dX11_line_162 : decode cX11_line 162 = .ok (.getfield 207, 3) := by decide +kernel
theorem dX11_line_165 : decode cX11_line 165 = .ok (.iconst 1, 1) := by decide +kernel
theorem dX11_line_166 : decode cX11_line 166 = .ok (.isub, 1) := by decide +kernel
theorem dX11_line_167 : decode cX11_line 167 = .ok (.ireturn, 1) := by decide +kernel
theorem dX11_isLine_0 : decode cX11_isLine 0 = .ok (.iload_n 1, 1) := by decide +kernel
theorem dX11_isLine_1 : decode cX11_isLine 1 = .ok (.i2l, 1) := by decide +kernel
theorem dX11_isLine_2 : decode cX11_isLine 2 = .ok (.lconst 0, 1) := by decide +kernel
theorem dX11_isLine_3 : decode cX11_isLine 3 = .ok (.aload_n 0, 1) := by decide +kernel
theorem dX11_isLine_4 : decode cX11_isLine 4 = .ok (.getfield 207, 3) := by decide +kernel
theorem dX11_isLine_7 : decode cX11_isLine 7 = .ok (.iconst 1, 1) := by decide +kernel
theorem dX11_isLine_8 : decode cX11_isLine 8 = .ok (.isub, 1) := by decide +kernel
theorem dX11_isLine_9 : decode cX11_isLine 9 = .ok (.i2l, 1) := by decide +kernel
theorem dX11_isLine_10 : decode cX11_isLine 10 = .ok (.invokestatic 110, 3) := by decide +kernel
theorem dX11_isLine_13 : decode cX11_isLine 13 = .ok (.ireturn, 1) := by decide +kernel
theorem dX11_drop_0 : decode cX11_drop 0 = .ok (.aload_n 0, 1) := by decide +kernel
theorem dX11_drop_1 : decode cX11_drop 1 = .ok (.iload_n 1, 1) := by decide +kernel
theorem dX11_drop_2 : decode cX11_drop 2 = .ok (.invokevirtual 216, 3) := by decide +kernel
theorem dX11_drop_5 : decode cX11_drop 5 = .ok (.ifCond .eq 13, 3) := by decide +kernel
theorem dX11_drop_8 : decode cX11_drop 8 = .ok (.aload_n 0, 1) := by decide +kernel
theorem dX11_drop_9 : decode cX11_drop 9 = .ok (.getfield 62, 3) := by decide +kernel
theorem dX11_drop_12 : decode cX11_drop 12 = .ok (.iload_n 1, 1) := by decide +kernel
theorem dX11_drop_13 : decode cX11_drop 13 = .ok (.iaload, 1) := by decide +kernel
theorem dX11_drop_14 : decode cX11_drop 14 = .ok (.iconst (-1), 1) := by decide +kernel
theorem dX11_drop_15 : decode cX11_drop 15 = .ok (.if_icmp .eq 6, 3) := by decide +kernel
theorem dX11_drop_18 : decode cX11_drop 18 = .ok (.bipush (-2), 2) := by decide +kernel
theorem dX11_drop_20 : decode cX11_drop 20 = .ok (.ireturn, 1) := by decide +kernel
theorem dX11_drop_21 : decode cX11_drop 21 = .ok (.aload_n 0, 1) := by decide +kernel
theorem dX11_drop_22 : decode cX11_drop 22 = .ok (.getfield 62, 3) := by decide +kernel
theorem dX11_drop_25 : decode cX11_drop 25 = .ok (.iload_n 1, 1) := by decide +kernel
theorem dX11_drop_26 : decode cX11_drop 26 = .ok (.aload_n 0, 1) := by decide +kernel
theorem dX11_drop_27 : decode cX11_drop 27 = .ok (.getfield 114, 3) := by decide +kernel
theorem dX11_drop_30 : decode cX11_drop 30 = .ok (.iastore, 1) := by decide +kernel
theorem dX11_drop_31 : decode cX11_drop 31 = .ok (.iconst 1, 1) := by decide +kernel
theorem dX11_drop_32 : decode cX11_drop 32 = .ok (.ireturn, 1) := by decide +kernel
theorem dX11_carrierOf_0 : decode cX11_carrierOf 0 = .ok (.iconst (-1), 1) := by decide +kernel
theorem dX11_carrierOf_1 : decode cX11_carrierOf 1 = .ok (.istore_n 3, 1) := by decide +kernel
theorem dX11_carrierOf_2 : decode cX11_carrierOf 2 = .ok (.iconst 0, 1) := by decide +kernel
theorem dX11_carrierOf_3 : decode cX11_carrierOf 3 = .ok (.istore 4, 2) := by decide +kernel
theorem dX11_carrierOf_5 : decode cX11_carrierOf 5 = .ok (.iload 4, 2) := by decide +kernel
theorem dX11_carrierOf_7 : decode cX11_carrierOf 7 = .ok (.aload_n 0, 1) := by decide +kernel
theorem dX11_carrierOf_8 : decode cX11_carrierOf 8 = .ok (.getfield 219, 3) := by decide +kernel
theorem dX11_carrierOf_11 : decode cX11_carrierOf 11 = .ok (.if_icmp .ge 39, 3) := by decide +kernel
theorem dX11_carrierOf_14 : decode cX11_carrierOf 14 = .ok (.aload_n 0, 1) := by decide +kernel
theorem dX11_carrierOf_15 : decode cX11_carrierOf 15 = .ok (.getfield 65, 3) := by decide +kernel
theorem dX11_carrierOf_18 : decode cX11_carrierOf 18 = .ok (.iload 4, 2) := by decide +kernel
theorem dX11_carrierOf_20 : decode cX11_carrierOf 20 = .ok (.iaload, 1) := by decide +kernel
theorem dX11_carrierOf_21 : decode cX11_carrierOf 21 = .ok (.iload_n 1, 1) := by decide +kernel
theorem dX11_carrierOf_22 : decode cX11_carrierOf 22 = .ok (.if_icmp .ne 22, 3) := by decide +kernel
theorem dX11_carrierOf_25 : decode cX11_carrierOf 25 = .ok (.aload_n 0, 1) := by decide +kernel
theorem dX11_carrierOf_26 : decode cX11_carrierOf 26 = .ok (.getfield 68, 3) := by decide +kernel
theorem dX11_carrierOf_29 : decode cX11_carrierOf 29 = .ok (.iload 4, 2) := by decide +kernel
theorem dX11_carrierOf_31 : decode cX11_carrierOf 31 = .ok (.iaload, 1) := by decide +kernel
theorem dX11_carrierOf_32 : decode cX11_carrierOf 32 = .ok (.iload_n 2, 1) := by decide +kernel
theorem dX11_carrierOf_33 : decode cX11_carrierOf 33 = .ok (.if_icmp .gt 11, 3) := by decide +kernel
theorem dX11_carrierOf_36 : decode cX11_carrierOf 36 = .ok (.aload_n 0, 1) := by decide +kernel
theorem dX11_carrierOf_37 : decode cX11_carrierOf 37 = .ok (.getfield 71, 3) := by decide +kernel
theorem dX11_carrierOf_40 : decode cX11_carrierOf 40 = .ok (.iload 4, 2) := by decide +kernel
theorem dX11_carrierOf_42 : decode cX11_carrierOf 42 = .ok (.iaload, 1) := by decide +kernel
theorem dX11_carrierOf_43 : decode cX11_carrierOf 43 = .ok (.istore_n 3, 1) := by decide +kernel
theorem dX11_carrierOf_44 : decode cX11_carrierOf 44 = .ok (.iinc 4 1, 3) := by decide +kernel
theorem dX11_carrierOf_47 : decode cX11_carrierOf 47 = .ok (.goto (-42), 3) := by decide +kernel
theorem dX11_carrierOf_50 : decode cX11_carrierOf 50 = .ok (.iload_n 3, 1) := by decide +kernel
theorem dX11_carrierOf_51 : decode cX11_carrierOf 51 = .ok (.ireturn, 1) := by decide +kernel
theorem dX11_port_0 : decode cX11_port 0 = .ok (.aload_n 0, 1) := by decide +kernel
theorem dX11_port_1 : decode cX11_port 1 = .ok (.iload_n 1, 1) := by decide +kernel
theorem dX11_port_2 : decode cX11_port 2 = .ok (.invokevirtual 216, 3) := by decide +kernel
theorem dX11_port_5 : decode cX11_port 5 = .ok (.ifCond .eq 25, 3) := by decide +kernel
theorem dX11_port_8 : decode cX11_port 8 = .ok (.aload_n 0, 1) := by decide +kernel
theorem dX11_port_9 : decode cX11_port 9 = .ok (.getfield 62, 3) := by decide +kernel
theorem dX11_port_12 : decode cX11_port 12 = .ok (.iload_n 1, 1) := by decide +kernel
theorem dX11_port_13 : decode cX11_port 13 = .ok (.iaload, 1) := by decide +kernel
theorem dX11_port_14 : decode cX11_port 14 = .ok (.iconst (-1), 1) := by decide +kernel
theorem dX11_port_15 : decode cX11_port 15 = .ok (.if_icmp .ne 15, 3) := by decide +kernel
theorem dX11_port_18 : decode cX11_port 18 = .ok (.iload_n 2, 1) := by decide +kernel
theorem dX11_port_19 : decode cX11_port 19 = .ok (.i2l, 1) := by decide +kernel
theorem dX11_port_20 : decode cX11_port 20 = .ok (.lconst 0, 1) := by decide +kernel
theorem dX11_port_21 : decode cX11_port 21 = .ok (.ldc2_w 162, 3) := by decide +kernel
theorem dX11_port_24 : decode cX11_port 24 = .ok (.invokestatic 110, 3) := by decide +kernel
theorem dX11_port_27 : decode cX11_port 27 = .ok (.ifCond .ne 6, 3) := by decide +kernel
theorem dX11_port_30 : decode cX11_port 30 = .ok (.bipush (-2), 2) := by decide +kernel
theorem dX11_port_32 : decode cX11_port 32 = .ok (.ireturn, 1) := by decide +kernel
theorem dX11_port_33 : decode cX11_port 33 = .ok (.aload_n 0, 1) := by decide +kernel
theorem dX11_port_34 : decode cX11_port 34 = .ok (.getfield 219, 3) := by decide +kernel
theorem dX11_port_37 : decode cX11_port 37 = .ok (.sipush 500, 3) := by decide +kernel
theorem dX11_port_40 : decode cX11_port 40 = .ok (.if_icmp .ne 6, 3) := by decide +kernel
theorem dX11_port_43 : decode cX11_port 43 = .ok (.bipush (-3), 2) := by decide +kernel
theorem dX11_port_45 : decode cX11_port 45 = .ok (.ireturn, 1) := by decide +kernel
theorem dX11_port_46 : decode cX11_port 46 = .ok (.aload_n 0, 1) := by decide +kernel
theorem dX11_port_47 : decode cX11_port 47 = .ok (.iload_n 1, 1) := by decide +kernel
theorem dX11_port_48 : decode cX11_port 48 = .ok (.aload_n 0, 1) := by decide +kernel
theorem dX11_port_49 : decode cX11_port 49 = .ok (.getfield 114, 3) := by decide +kernel
theorem dX11_port_52 : decode cX11_port 52 = .ok (.invokevirtual 222, 3) := by decide +kernel
theorem dX11_port_55 : decode cX11_port 55 = .ok (.istore_n 3, 1) := by decide +kernel
theorem dX11_port_56 : decode cX11_port 56 = .ok (.aload_n 0, 1) := by decide +kernel
theorem dX11_port_57 : decode cX11_port 57 = .ok (.getfield 65, 3) := by decide +kernel
theorem dX11_port_60 : decode cX11_port 60 = .ok (.aload_n 0, 1) := by decide +kernel
theorem dX11_port_61 : decode cX11_port 61 = .ok (.getfield 219, 3) := by decide +kernel
theorem dX11_port_64 : decode cX11_port 64 = .ok (.iload_n 1, 1) := by decide +kernel
theorem dX11_port_65 : decode cX11_port 65 = .ok (.iastore, 1) := by decide +kernel
theorem dX11_port_66 : decode cX11_port 66 = .ok (.aload_n 0, 1) := by decide +kernel
theorem dX11_port_67 : decode cX11_port 67 = .ok (.getfield 68, 3) := by decide +kernel
theorem dX11_port_70 : decode cX11_port 70 = .ok (.aload_n 0, 1) := by decide +kernel
theorem dX11_port_71 : decode cX11_port 71 = .ok (.getfield 219, 3) := by decide +kernel
theorem dX11_port_74 : decode cX11_port 74 = .ok (.aload_n 0, 1) := by decide +kernel
theorem dX11_port_75 : decode cX11_port 75 = .ok (.getfield 114, 3) := by decide +kernel
theorem dX11_port_78 : decode cX11_port 78 = .ok (.iastore, 1) := by decide +kernel
theorem dX11_port_79 : decode cX11_port 79 = .ok (.aload_n 0, 1) := by decide +kernel
theorem dX11_port_80 : decode cX11_port 80 = .ok (.getfield 71, 3) := by decide +kernel
theorem dX11_port_83 : decode cX11_port 83 = .ok (.aload_n 0, 1) := by decide +kernel
theorem dX11_port_84 : decode cX11_port 84 = .ok (.getfield 219, 3) := by decide +kernel
theorem dX11_port_87 : decode cX11_port 87 = .ok (.iload_n 2, 1) := by decide +kernel
theorem dX11_port_88 : decode cX11_port 88 = .ok (.iastore, 1) := by decide +kernel
theorem dX11_port_89 : decode cX11_port 89 = .ok (.aload_n 0, 1) := by decide +kernel
theorem dX11_port_90 : decode cX11_port 90 = .ok (.dup, 1) := by decide +kernel
theorem dX11_port_91 : decode cX11_port 91 = .ok (.getfield 219, 3) := by decide +kernel
theorem dX11_port_94 : decode cX11_port 94 = .ok (.iconst 1, 1) := by decide +kernel
theorem dX11_port_95 : decode cX11_port 95 = .ok (.iadd, 1) := by decide +kernel
theorem dX11_port_96 : decode cX11_port 96 = .ok (.putfield 219, 3) := by decide +kernel
theorem dX11_port_99 : decode cX11_port 99 = .ok (.iload_n 3, 1) := by decide +kernel
theorem dX11_port_100 : decode cX11_port 100 = .ok (.ireturn, 1) := by decide +kernel
theorem dX11_joined_0 : decode cX11_joined 0 = .ok (.lload_n 0, 1) := by decide +kernel
theorem dX11_joined_1 : decode cX11_joined 1 = .ok (.lstore 4, 2) := by decide +kernel
theorem dX11_joined_3 : decode cX11_joined 3 = .ok (.lload_n 2, 1) := by decide +kernel
theorem dX11_joined_4 : decode cX11_joined 4 = .ok (.invokestatic 122, 3) := by decide +kernel
theorem dX11_joined_7 : decode cX11_joined 7 = .ok (.istore 6, 2) := by decide +kernel
theorem dX11_joined_9 : decode cX11_joined 9 = .ok (.iconst 0, 1) := by decide +kernel
theorem dX11_joined_10 : decode cX11_joined 10 = .ok (.istore 7, 2) := by decide +kernel
theorem dX11_joined_12 : decode cX11_joined 12 = .ok (.iload 7, 2) := by decide +kernel
theorem dX11_joined_14 : decode cX11_joined 14 = .ok (.iload 6, 2) := by decide +kernel
theorem dX11_joined_16 : decode cX11_joined 16 = .ok (.if_icmp .ge 25, 3) := by decide +kernel
theorem dX11_joined_19 : decode cX11_joined 19 = .ok (.ldc2_w 120, 3) := by decide +kernel
theorem dX11_joined_22 : decode cX11_joined 22 = .ok (.lload 4, 2) := by decide +kernel
theorem dX11_joined_24 : decode cX11_joined 24 = .ok (.lmul, 1) := by decide +kernel
theorem dX11_joined_25 : decode cX11_joined 25 = .ok (.lload_n 2, 1) := by decide +kernel
theorem dX11_joined_26 : decode cX11_joined 26 = .ok (.iload 7, 2) := by decide +kernel
theorem dX11_joined_28 : decode cX11_joined 28 = .ok (.invokestatic 183, 3) := by decide +kernel
theorem dX11_joined_31 : decode cX11_joined 31 = .ok (.i2l, 1) := by decide +kernel
theorem dX11_joined_32 : decode cX11_joined 32 = .ok (.ladd, 1) := by decide +kernel
theorem dX11_joined_33 : decode cX11_joined 33 = .ok (.lstore 4, 2) := by decide +kernel
theorem dX11_joined_35 : decode cX11_joined 35 = .ok (.iinc 7 1, 3) := by decide +kernel
theorem dX11_joined_38 : decode cX11_joined 38 = .ok (.goto (-26), 3) := by decide +kernel
theorem dX11_joined_41 : decode cX11_joined 41 = .ok (.lload 4, 2) := by decide +kernel
theorem dX11_joined_43 : decode cX11_joined 43 = .ok (.lreturn, 1) := by decide +kernel
theorem dX11_numberOf_0 : decode cX11_numberOf 0 = .ok (.aload_n 0, 1) := by decide +kernel
theorem dX11_numberOf_1 : decode cX11_numberOf 1 = .ok (.iload_n 1, 1) := by decide +kernel
theorem dX11_numberOf_2 : decode cX11_numberOf 2 = .ok (.invokevirtual 216, 3) := by decide +kernel
theorem dX11_numberOf_5 : decode cX11_numberOf 5 = .ok (.ifCond .eq 10, 3) := by decide +kernel
theorem dX11_numberOf_8 : decode cX11_numberOf 8 = .ok (.iload_n 2, 1) := by decide +kernel
theorem dX11_numberOf_9 : decode cX11_numberOf 9 = .ok (.invokestatic 194, 3) := by decide +kernel
theorem dX11_numberOf_12 : decode cX11_numberOf 12 = .ok (.ifCond .ne 7, 3) := by decide +kernel
theorem dX11_numberOf_15 : decode cX11_numberOf 15 = .ok (.ldc2_w 225, 3) := by decide +kernel
theorem dX11_numberOf_18 : decode cX11_numberOf 18 = .ok (.lreturn, 1) := by decide +kernel
theorem dX11_numberOf_19 : decode cX11_numberOf 19 = .ok (.aload_n 0, 1) := by decide +kernel
theorem dX11_numberOf_20 : decode cX11_numberOf 20 = .ok (.iload_n 1, 1) := by decide +kernel
theorem dX11_numberOf_21 : decode cX11_numberOf 21 = .ok (.iload_n 2, 1) := by decide +kernel
theorem dX11_numberOf_22 : decode cX11_numberOf 22 = .ok (.invokevirtual 210, 3) := by decide +kernel
theorem dX11_numberOf_25 : decode cX11_numberOf 25 = .ok (.istore_n 3, 1) := by decide +kernel
theorem dX11_numberOf_26 : decode cX11_numberOf 26 = .ok (.iload_n 3, 1) := by decide +kernel
theorem dX11_numberOf_27 : decode cX11_numberOf 27 = .ok (.iconst (-1), 1) := by decide +kernel
theorem dX11_numberOf_28 : decode cX11_numberOf 28 = .ok (.if_icmp .ne 9, 3) := by decide +kernel
theorem dX11_numberOf_31 : decode cX11_numberOf 31 = .ok (.ldc2_w 225, 3) := by decide +kernel
theorem dX11_numberOf_34 : decode cX11_numberOf 34 = .ok (.goto 19, 3) := by decide +kernel
theorem dX11_numberOf_37 : decode cX11_numberOf 37 = .ok (.aload_n 0, 1) := by decide +kernel
theorem dX11_numberOf_38 : decode cX11_numberOf 38 = .ok (.getfield 16, 3) := by decide +kernel
theorem dX11_numberOf_41 : decode cX11_numberOf 41 = .ok (.iload_n 3, 1) := by decide +kernel
theorem dX11_numberOf_42 : decode cX11_numberOf 42 = .ok (.iaload, 1) := by decide +kernel
theorem dX11_numberOf_43 : decode cX11_numberOf 43 = .ok (.i2l, 1) := by decide +kernel
theorem dX11_numberOf_44 : decode cX11_numberOf 44 = .ok (.aload_n 0, 1) := by decide +kernel
theorem dX11_numberOf_45 : decode cX11_numberOf 45 = .ok (.getfield 56, 3) := by decide +kernel
theorem dX11_numberOf_48 : decode cX11_numberOf 48 = .ok (.iload_n 1, 1) := by decide +kernel
theorem dX11_numberOf_49 : decode cX11_numberOf 49 = .ok (.laload, 1) := by decide +kernel
theorem dX11_numberOf_50 : decode cX11_numberOf 50 = .ok (.invokestatic 227, 3) := by decide +kernel
theorem dX11_numberOf_53 : decode cX11_numberOf 53 = .ok (.lreturn, 1) := by decide +kernel
theorem dX11_lineAt_0 : decode cX11_lineAt 0 = .ok (.aload_n 0, 1) := by decide +kernel
theorem dX11_lineAt_1 : decode cX11_lineAt 1 = .ok (.iload_n 1, 1) := by decide +kernel
theorem dX11_lineAt_2 : decode cX11_lineAt 2 = .ok (.invokevirtual 216, 3) := by decide +kernel
theorem dX11_lineAt_5 : decode cX11_lineAt 5 = .ok (.ifCond .eq 10, 3) := by decide +kernel
theorem dX11_lineAt_8 : decode cX11_lineAt 8 = .ok (.iload_n 2, 1) := by decide +kernel
theorem dX11_lineAt_9 : decode cX11_lineAt 9 = .ok (.invokestatic 194, 3) := by decide +kernel
theorem dX11_lineAt_12 : decode cX11_lineAt 12 = .ok (.ifCond .ne 5, 3) := by decide +kernel
theorem dX11_lineAt_15 : decode cX11_lineAt 15 = .ok (.iconst (-1), 1) := by decide +kernel
theorem dX11_lineAt_16 : decode cX11_lineAt 16 = .ok (.ireturn, 1) := by decide +kernel
theorem dX11_lineAt_17 : decode cX11_lineAt 17 = .ok (.aload_n 0, 1) := by decide +kernel
theorem dX11_lineAt_18 : decode cX11_lineAt 18 = .ok (.iload_n 1, 1) := by decide +kernel
theorem dX11_lineAt_19 : decode cX11_lineAt 19 = .ok (.iload_n 2, 1) := by decide +kernel
theorem dX11_lineAt_20 : decode cX11_lineAt 20 = .ok (.invokevirtual 210, 3) := by decide +kernel
theorem dX11_lineAt_23 : decode cX11_lineAt 23 = .ok (.istore 4, 2) := by decide +kernel
theorem dX11_lineAt_25 : decode cX11_lineAt 25 = .ok (.iload 4, 2) := by decide +kernel
theorem dX11_lineAt_27 : decode cX11_lineAt 27 = .ok (.iconst (-1), 1) := by decide +kernel
theorem dX11_lineAt_28 : decode cX11_lineAt 28 = .ok (.if_icmp .ne 5, 3) := by decide +kernel
theorem dX11_lineAt_31 : decode cX11_lineAt 31 = .ok (.iconst (-1), 1) := by decide +kernel
theorem dX11_lineAt_32 : decode cX11_lineAt 32 = .ok (.ireturn, 1) := by decide +kernel
theorem dX11_lineAt_33 : decode cX11_lineAt 33 = .ok (.iload_n 3, 1) := by decide +kernel
theorem dX11_lineAt_34 : decode cX11_lineAt 34 = .ok (.ifCond .ne 8, 3) := by decide +kernel
theorem dX11_lineAt_37 : decode cX11_lineAt 37 = .ok (.iload 4, 2) := by decide +kernel
theorem dX11_lineAt_39 : decode cX11_lineAt 39 = .ok (.goto 33, 3) := by decide +kernel
theorem dX11_lineAt_42 : decode cX11_lineAt 42 = .ok (.iload_n 3, 1) := by decide +kernel
theorem dX11_lineAt_43 : decode cX11_lineAt 43 = .ok (.iconst 1, 1) := by decide +kernel
theorem dX11_lineAt_44 : decode cX11_lineAt 44 = .ok (.if_icmp .ne 12, 3) := by decide +kernel
theorem dX11_lineAt_47 : decode cX11_lineAt 47 = .ok (.aload_n 0, 1) := by decide +kernel
theorem dX11_lineAt_48 : decode cX11_lineAt 48 = .ok (.iload_n 1, 1) := by decide +kernel
theorem dX11_lineAt_49 : decode cX11_lineAt 49 = .ok (.iload_n 2, 1) := by decide +kernel
theorem dX11_lineAt_50 : decode cX11_lineAt 50 = .ok (.invokevirtual 222, 3) := by decide +kernel
theorem dX11_lineAt_53 : decode cX11_lineAt 53 = .ok (.goto 19, 3) := by decide +kernel
theorem dX11_lineAt_56 : decode cX11_lineAt 56 = .ok (.iload_n 3, 1) := by decide +kernel
theorem dX11_lineAt_57 : decode cX11_lineAt 57 = .ok (.iconst 2, 1) := by decide +kernel
theorem dX11_lineAt_58 : decode cX11_lineAt 58 = .ok (.if_icmp .ne 13, 3) := by decide +kernel
theorem dX11_lineAt_61 : decode cX11_lineAt 61 = .ok (.aload_n 0, 1) := by decide +kernel
theorem dX11_lineAt_62 : decode cX11_lineAt 62 = .ok (.getfield 13, 3) := by decide +kernel
theorem dX11_lineAt_65 : decode cX11_lineAt 65 = .ok (.iload 4, 2) := by decide +kernel
theorem dX11_lineAt_67 : decode cX11_lineAt 67 = .ok (.iaload, 1) := by decide +kernel
theorem dX11_lineAt_68 : decode cX11_lineAt 68 = .ok (.goto 4, 3) := by decide +kernel
theorem dX11_lineAt_71 : decode cX11_lineAt 71 = .ok (.iconst (-1), 1) := by decide +kernel
theorem dX11_lineAt_72 : decode cX11_lineAt 72 = .ok (.ireturn, 1) := by decide +kernel
theorem dX11_isCall_0 : decode cX11_isCall 0 = .ok (.iload_n 1, 1) := by decide +kernel
theorem dX11_isCall_1 : decode cX11_isCall 1 = .ok (.i2l, 1) := by decide +kernel
theorem dX11_isCall_2 : decode cX11_isCall 2 = .ok (.lconst 0, 1) := by decide +kernel
theorem dX11_isCall_3 : decode cX11_isCall 3 = .ok (.ldc2_w 231, 3) := by decide +kernel
theorem dX11_isCall_6 : decode cX11_isCall 6 = .ok (.invokestatic 110, 3) := by decide +kernel
theorem dX11_isCall_9 : decode cX11_isCall 9 = .ok (.ireturn, 1) := by decide +kernel
theorem dX11_call_0 : decode cX11_call 0 = .ok (.aload_n 0, 1) := by decide +kernel
theorem dX11_call_1 : decode cX11_call 1 = .ok (.iload_n 1, 1) := by decide +kernel
theorem dX11_call_2 : decode cX11_call 2 = .ok (.invokevirtual 233, 3) := by decide +kernel
theorem dX11_call_5 : decode cX11_call 5 = .ok (.ifCond .ne 6, 3) := by decide +kernel
theorem dX11_call_8 : decode cX11_call 8 = .ok (.bipush (-2), 2) := by decide +kernel
theorem dX11_call_10 : decode cX11_call 10 = .ok (.ireturn, 1) := by decide +kernel
theorem dX11_call_11 : decode cX11_call 11 = .ok (.aload_n 0, 1) := by decide +kernel
theorem dX11_call_12 : decode cX11_call 12 = .ok (.getfield 90, 3) := by decide +kernel
theorem dX11_call_15 : decode cX11_call 15 = .ok (.iload_n 1, 1) := by decide +kernel
theorem dX11_call_16 : decode cX11_call 16 = .ok (.iconst 1, 1) := by decide +kernel
theorem dX11_call_17 : decode cX11_call 17 = .ok (.bastore, 1) := by decide +kernel
theorem dX11_call_18 : decode cX11_call 18 = .ok (.aload_n 0, 1) := by decide +kernel
theorem dX11_call_19 : decode cX11_call 19 = .ok (.getfield 74, 3) := by decide +kernel
theorem dX11_call_22 : decode cX11_call 22 = .ok (.iload_n 1, 1) := by decide +kernel
theorem dX11_call_23 : decode cX11_call 23 = .ok (.aload_n 0, 1) := by decide +kernel
theorem dX11_call_24 : decode cX11_call 24 = .ok (.getfield 114, 3) := by decide +kernel
theorem dX11_call_27 : decode cX11_call 27 = .ok (.iastore, 1) := by decide +kernel
theorem dX11_call_28 : decode cX11_call 28 = .ok (.aload_n 0, 1) := by decide +kernel
theorem dX11_call_29 : decode cX11_call 29 = .ok (.getfield 77, 3) := by decide +kernel
theorem dX11_call_32 : decode cX11_call 32 = .ok (.iload_n 1, 1) := by decide +kernel
theorem dX11_call_33 : decode cX11_call 33 = .ok (.iconst 0, 1) := by decide +kernel
theorem dX11_call_34 : decode cX11_call 34 = .ok (.iastore, 1) := by decide +kernel
theorem dX11_call_35 : decode cX11_call 35 = .ok (.aload_n 0, 1) := by decide +kernel
theorem dX11_call_36 : decode cX11_call 36 = .ok (.getfield 83, 3) := by decide +kernel
theorem dX11_call_39 : decode cX11_call 39 = .ok (.iload_n 1, 1) := by decide +kernel
theorem dX11_call_40 : decode cX11_call 40 = .ok (.iconst (-1), 1) := by decide +kernel
theorem dX11_call_41 : decode cX11_call 41 = .ok (.iastore, 1) := by decide +kernel
theorem dX11_call_42 : decode cX11_call 42 = .ok (.aload_n 0, 1) := by decide +kernel
theorem dX11_call_43 : decode cX11_call 43 = .ok (.getfield 86, 3) := by decide +kernel
theorem dX11_call_46 : decode cX11_call 46 = .ok (.iload_n 1, 1) := by decide +kernel
theorem dX11_call_47 : decode cX11_call 47 = .ok (.iconst 0, 1) := by decide +kernel
theorem dX11_call_48 : decode cX11_call 48 = .ok (.bastore, 1) := by decide +kernel
theorem dX11_call_49 : decode cX11_call 49 = .ok (.aload_n 0, 1) := by decide +kernel
theorem dX11_call_50 : decode cX11_call 50 = .ok (.getfield 114, 3) := by decide +kernel
theorem dX11_call_53 : decode cX11_call 53 = .ok (.ireturn, 1) := by decide +kernel
theorem dX11_takeCall_0 : decode cX11_takeCall 0 = .ok (.aload_n 0, 1) := by decide +kernel
theorem dX11_takeCall_1 : decode cX11_takeCall 1 = .ok (.aload_n 0, 1) := by decide +kernel
theorem dX11_takeCall_2 : decode cX11_takeCall 2 = .ok (.getfield 77, 3) := by decide +kernel
theorem dX11_takeCall_5 : decode cX11_takeCall 5 = .ok (.iload_n 1, 1) := by decide +kernel
theorem dX11_takeCall_6 : decode cX11_takeCall 6 = .ok (.iaload, 1) := by decide +kernel
theorem dX11_takeCall_7 : decode cX11_takeCall 7 = .ok (.putfield 236, 3) := by decide +kernel
theorem dX11_takeCall_10 : decode cX11_takeCall 10 = .ok (.iconst 0, 1) := by decide +kernel
theorem dX11_takeCall_11 : decode cX11_takeCall 11 = .ok (.istore_n 2, 1) := by decide +kernel
theorem dX11_takeCall_12 : decode cX11_takeCall 12 = .ok (.iload_n 2, 1) := by decide +kernel
theorem dX11_takeCall_13 : decode cX11_takeCall 13 = .ok (.aload_n 0, 1) := by decide +kernel
theorem dX11_takeCall_14 : decode cX11_takeCall 14 = .ok (.getfield 236, 3) := by decide +kernel
theorem dX11_takeCall_17 : decode cX11_takeCall 17 = .ok (.if_icmp .ge 26, 3) := by decide +kernel
theorem dX11_takeCall_20 : decode cX11_takeCall 20 = .ok (.aload_n 0, 1) := by decide +kernel
theorem dX11_takeCall_21 : decode cX11_takeCall 21 = .ok (.getfield 93, 3) := by decide +kernel
theorem dX11_takeCall_24 : decode cX11_takeCall 24 = .ok (.iload_n 2, 1) := by decide +kernel
theorem dX11_takeCall_25 : decode cX11_takeCall 25 = .ok (.aload_n 0, 1) := by decide +kernel
theorem dX11_takeCall_26 : decode cX11_takeCall 26 = .ok (.getfield 80, 3) := by decide +kernel
theorem dX11_takeCall_29 : decode cX11_takeCall 29 = .ok (.bipush 16, 2) := by decide +kernel
theorem dX11_takeCall_31 : decode cX11_takeCall 31 = .ok (.iload_n 1, 1) := by decide +kernel
theorem dX11_takeCall_32 : decode cX11_takeCall 32 = .ok (.imul, 1) := by decide +kernel
theorem dX11_takeCall_33 : decode cX11_takeCall 33 = .ok (.iload_n 2, 1) := by decide +kernel
theorem dX11_takeCall_34 : decode cX11_takeCall 34 = .ok (.iadd, 1) := by decide +kernel
theorem dX11_takeCall_35 : decode cX11_takeCall 35 = .ok (.iaload, 1) := by decide +kernel
theorem dX11_takeCall_36 : decode cX11_takeCall 36 = .ok (.iastore, 1) := by decide +kernel
theorem dX11_takeCall_37 : decode cX11_takeCall 37 = .ok (.iinc 2 1, 3) := by decide +kernel
theorem dX11_takeCall_40 : decode cX11_takeCall 40 = .ok (.goto (-28), 3) := by decide +kernel
theorem dX11_takeCall_43 : decode cX11_takeCall 43 = .ok (.return_, 1) := by decide +kernel
theorem dX11_takeNumber_0 : decode cX11_takeNumber 0 = .ok (.aload_n 0, 1) := by decide +kernel
theorem dX11_takeNumber_1 : decode cX11_takeNumber 1 = .ok (.lload_n 1, 1) := by decide +kernel
theorem dX11_takeNumber_2 : decode cX11_takeNumber 2 = .ok (.invokestatic 122, 3) := by decide +kernel
theorem dX11_takeNumber_5 : decode cX11_takeNumber 5 = .ok (.putfield 236, 3) := by decide +kernel
theorem dX11_takeNumber_8 : decode cX11_takeNumber 8 = .ok (.iconst 0, 1) := by decide +kernel
theorem dX11_takeNumber_9 : decode cX11_takeNumber 9 = .ok (.istore_n 3, 1) := by decide +kernel
theorem dX11_takeNumber_10 : decode cX11_takeNumber 10 = .ok (.iload_n 3, 1) := by decide +kernel
theorem dX11_takeNumber_11 : decode cX11_takeNumber 11 = .ok (.aload_n 0, 1) := by decide +kernel
theorem dX11_takeNumber_12 : decode cX11_takeNumber 12 = .ok (.getfield 236, 3) := by decide +kernel
theorem dX11_takeNumber_15 : decode cX11_takeNumber 15 = .ok (.if_icmp .ge 20, 3) := by decide +kernel
theorem dX11_takeNumber_18 : decode cX11_takeNumber 18 = .ok (.aload_n 0, 1) := by decide +kernel
theorem dX11_takeNumber_19 : decode cX11_takeNumber 19 = .ok (.getfield 93, 3) := by decide +kernel
theorem dX11_takeNumber_22 : decode cX11_takeNumber 22 = .ok (.iload_n 3, 1) := by decide +kernel
theorem dX11_takeNumber_23 : decode cX11_takeNumber 23 = .ok (.lload_n 1, 1) := by decide +kernel
theorem dX11_takeNumber_24 : decode cX11_takeNumber 24 = .ok (.iload_n 3, 1) := by decide +kernel
theorem dX11_takeNumber_25 : decode cX11_takeNumber 25 = .ok (.invokestatic 183, 3) := by decide +kernel
theorem dX11_takeNumber_28 : decode cX11_takeNumber 28 = .ok (.iastore, 1) := by decide +kernel
theorem dX11_takeNumber_29 : decode cX11_takeNumber 29 = .ok (.iinc 3 1, 3) := by decide +kernel
theorem dX11_takeNumber_32 : decode cX11_takeNumber 32 = .ok (.goto (-22), 3) := by decide +kernel
theorem dX11_takeNumber_35 : decode cX11_takeNumber 35 = .ok (.return_, 1) := by decide +kernel
theorem dX11_isBegun_0 : decode cX11_isBegun 0 = .ok (.iconst 0, 1) := by decide +kernel
theorem dX11_isBegun_1 : decode cX11_isBegun 1 = .ok (.istore_n 2, 1) := by decide +kernel
theorem dX11_isBegun_2 : decode cX11_isBegun 2 = .ok (.iload_n 2, 1) := by decide +kernel
theorem dX11_isBegun_3 : decode cX11_isBegun 3 = .ok (.aload_n 0, 1) := by decide +kernel
theorem dX11_isBegun_4 : decode cX11_isBegun 4 = .ok (.getfield 236, 3) := by decide +kernel
theorem dX11_isBegun_7 : decode cX11_isBegun 7 = .ok (.if_icmp .ge 29, 3) := by decide +kernel
theorem dX11_isBegun_10 : decode cX11_isBegun 10 = .ok (.aload_n 0, 1) := by decide +kernel
theorem dX11_isBegun_11 : decode cX11_isBegun 11 = .ok (.iload_n 1, 1) := by decide +kernel
theorem dX11_isBegun_12 : decode cX11_isBegun 12 = .ok (.iload_n 2, 1) := by decide +kernel
theorem dX11_isBegun_13 : decode cX11_isBegun 13 = .ok (.invokevirtual 187, 3) := by decide +kernel
theorem dX11_isBegun_16 : decode cX11_isBegun 16 = .ok (.aload_n 0, 1) := by decide +kernel
theorem dX11_isBegun_17 : decode cX11_isBegun 17 = .ok (.getfield 93, 3) := by decide +kernel
theorem dX11_isBegun_20 : decode cX11_isBegun 20 = .ok (.iload_n 2, 1) := by decide +kernel
theorem dX11_isBegun_21 : decode cX11_isBegun 21 = .ok (.iaload, 1) := by decide +kernel
theorem dX11_isBegun_22 : decode cX11_isBegun 22 = .ok (.ishr, 1) := by decide +kernel
theorem dX11_isBegun_23 : decode cX11_isBegun 23 = .ok (.iconst 1, 1) := by decide +kernel
theorem dX11_isBegun_24 : decode cX11_isBegun 24 = .ok (.iand, 1) := by decide +kernel
theorem dX11_isBegun_25 : decode cX11_isBegun 25 = .ok (.ifCond .ne 5, 3) := by decide +kernel
theorem dX11_isBegun_28 : decode cX11_isBegun 28 = .ok (.iconst 0, 1) := by decide +kernel
theorem dX11_isBegun_29 : decode cX11_isBegun 29 = .ok (.ireturn, 1) := by decide +kernel
theorem dX11_isBegun_30 : decode cX11_isBegun 30 = .ok (.iinc 2 1, 3) := by decide +kernel
theorem dX11_isBegun_33 : decode cX11_isBegun 33 = .ok (.goto (-31), 3) := by decide +kernel
theorem dX11_isBegun_36 : decode cX11_isBegun 36 = .ok (.iconst 1, 1) := by decide +kernel
theorem dX11_isBegun_37 : decode cX11_isBegun 37 = .ok (.ireturn, 1) := by decide +kernel
theorem dX11_isNumber_0 : decode cX11_isNumber 0 = .ok (.aload_n 0, 1) := by decide +kernel
theorem dX11_isNumber_1 : decode cX11_isNumber 1 = .ok (.getfield 236, 3) := by decide +kernel
theorem dX11_isNumber_4 : decode cX11_isNumber 4 = .ok (.i2l, 1) := by decide +kernel
theorem dX11_isNumber_5 : decode cX11_isNumber 5 = .ok (.aload_n 0, 1) := by decide +kernel
theorem dX11_isNumber_6 : decode cX11_isNumber 6 = .ok (.getfield 22, 3) := by decide +kernel
theorem dX11_isNumber_9 : decode cX11_isNumber 9 = .ok (.iload_n 1, 1) := by decide +kernel
theorem dX11_isNumber_10 : decode cX11_isNumber 10 = .ok (.iaload, 1) := by decide +kernel
theorem dX11_isNumber_11 : decode cX11_isNumber 11 = .ok (.i2l, 1) := by decide +kernel
theorem dX11_isNumber_12 : decode cX11_isNumber 12 = .ok (.aload_n 0, 1) := by decide +kernel
theorem dX11_isNumber_13 : decode cX11_isNumber 13 = .ok (.getfield 25, 3) := by decide +kernel
theorem dX11_isNumber_16 : decode cX11_isNumber 16 = .ok (.iload_n 1, 1) := by decide +kernel
theorem dX11_isNumber_17 : decode cX11_isNumber 17 = .ok (.iaload, 1) := by decide +kernel
theorem dX11_isNumber_18 : decode cX11_isNumber 18 = .ok (.i2l, 1) := by decide +kernel
theorem dX11_isNumber_19 : decode cX11_isNumber 19 = .ok (.invokestatic 110, 3) := by decide +kernel
theorem dX11_isNumber_22 : decode cX11_isNumber 22 = .ok (.ifCond .eq 15, 3) := by decide +kernel
theorem dX11_isNumber_25 : decode cX11_isNumber 25 = .ok (.aload_n 0, 1) := by decide +kernel
theorem dX11_isNumber_26 : decode cX11_isNumber 26 = .ok (.iload_n 1, 1) := by decide +kernel
theorem dX11_isNumber_27 : decode cX11_isNumber 27 = .ok (.invokevirtual 239, 3) := by decide +kernel
theorem dX11_isNumber_30 : decode cX11_isNumber 30 = .ok (.ifCond .eq 7, 3) := by decide +kernel
theorem dX11_isNumber_33 : decode cX11_isNumber 33 = .ok (.iconst 1, 1) := by decide +kernel
theorem dX11_isNumber_34 : decode cX11_isNumber 34 = .ok (.goto 4, 3) := by decide +kernel
theorem dX11_isNumber_37 : decode cX11_isNumber 37 = .ok (.iconst 0, 1) := by decide +kernel
theorem dX11_isNumber_38 : decode cX11_isNumber 38 = .ok (.ireturn, 1) := by decide +kernel
theorem dX11_goesOn_0 : decode cX11_goesOn 0 = .ok (.aload_n 0, 1) := by decide +kernel
theorem dX11_goesOn_1 : decode cX11_goesOn 1 = .ok (.getfield 25, 3) := by decide +kernel
theorem dX11_goesOn_4 : decode cX11_goesOn 4 = .ok (.iload_n 1, 1) := by decide +kernel
theorem dX11_goesOn_5 : decode cX11_goesOn 5 = .ok (.iaload, 1) := by decide +kernel
theorem dX11_goesOn_6 : decode cX11_goesOn 6 = .ok (.aload_n 0, 1) := by decide +kernel
theorem dX11_goesOn_7 : decode cX11_goesOn 7 = .ok (.getfield 236, 3) := by decide +kernel
theorem dX11_goesOn_10 : decode cX11_goesOn 10 = .ok (.if_icmp .le 15, 3) := by decide +kernel
theorem dX11_goesOn_13 : decode cX11_goesOn 13 = .ok (.aload_n 0, 1) := by decide +kernel
theorem dX11_goesOn_14 : decode cX11_goesOn 14 = .ok (.iload_n 1, 1) := by decide +kernel
theorem dX11_goesOn_15 : decode cX11_goesOn 15 = .ok (.invokevirtual 239, 3) := by decide +kernel
theorem dX11_goesOn_18 : decode cX11_goesOn 18 = .ok (.ifCond .eq 7, 3) := by decide +kernel
theorem dX11_goesOn_21 : decode cX11_goesOn 21 = .ok (.iconst 1, 1) := by decide +kernel
theorem dX11_goesOn_22 : decode cX11_goesOn 22 = .ok (.goto 4, 3) := by decide +kernel
theorem dX11_goesOn_25 : decode cX11_goesOn 25 = .ok (.iconst 0, 1) := by decide +kernel
theorem dX11_goesOn_26 : decode cX11_goesOn 26 = .ok (.ireturn, 1) := by decide +kernel
theorem dX11_answer_0 : decode cX11_answer 0 = .ok (.iconst 0, 1) := by decide +kernel
theorem dX11_answer_1 : decode cX11_answer 1 = .ok (.istore_n 2, 1) := by decide +kernel
theorem dX11_answer_2 : decode cX11_answer 2 = .ok (.iconst 0, 1) := by decide +kernel
theorem dX11_answer_3 : decode cX11_answer 3 = .ok (.istore_n 3, 1) := by decide +kernel
theorem dX11_answer_4 : decode cX11_answer 4 = .ok (.iconst 0, 1) := by decide +kernel
theorem dX11_answer_5 : decode cX11_answer 5 = .ok (.istore 4, 2) := by decide +kernel
theorem dX11_answer_7 : decode cX11_answer 7 = .ok (.iload 4, 2) := by decide +kernel
theorem dX11_answer_9 : decode cX11_answer 9 = .ok (.aload_n 0, 1) := by decide +kernel
theorem dX11_answer_10 : decode cX11_answer 10 = .ok (.getfield 130, 3) := by decide +kernel
theorem dX11_answer_13 : decode cX11_answer 13 = .ok (.if_icmp .ge 60, 3) := by decide +kernel
theorem dX11_answer_16 : decode cX11_answer 16 = .ok (.aload_n 0, 1) := by decide +kernel
theorem dX11_answer_17 : decode cX11_answer 17 = .ok (.iload 4, 2) := by decide +kernel
theorem dX11_answer_19 : decode cX11_answer 19 = .ok (.iload_n 1, 1) := by decide +kernel
theorem dX11_answer_20 : decode cX11_answer 20 = .ok (.invokevirtual 197, 3) := by decide +kernel
theorem dX11_answer_23 : decode cX11_answer 23 = .ok (.ifCond .ne 6, 3) := by decide +kernel
theorem dX11_answer_26 : decode cX11_answer 26 = .ok (.goto 41, 3) := by decide +kernel
theorem dX11_answer_29 : decode cX11_answer 29 = .ok (.iload_n 2, 1) := by decide +kernel
theorem dX11_answer_30 : decode cX11_answer 30 = .ok (.ifCond .ne 12, 3) := by decide +kernel
theorem dX11_answer_33 : decode cX11_answer 33 = .ok (.aload_n 0, 1) := by decide +kernel
theorem dX11_answer_34 : decode cX11_answer 34 = .ok (.iload 4, 2) := by decide +kernel
theorem dX11_answer_36 : decode cX11_answer 36 = .ok (.invokevirtual 242, 3) := by decide +kernel
theorem dX11_answer_39 : decode cX11_answer 39 = .ok (.ifCond .eq 7, 3) := by decide +kernel
theorem dX11_answer_42 : decode cX11_answer 42 = .ok (.iconst 1, 1) := by decide +kernel
theorem dX11_answer_43 : decode cX11_answer 43 = .ok (.goto 4, 3) := by decide +kernel
theorem dX11_answer_46 : decode cX11_answer 46 = .ok (.iconst 0, 1) := by decide +kernel
theorem dX11_answer_47 : decode cX11_answer 47 = .ok (.istore_n 2, 1) := by decide +kernel
theorem dX11_answer_48 : decode cX11_answer 48 = .ok (.iload_n 3, 1) := by decide +kernel
theorem dX11_answer_49 : decode cX11_answer 49 = .ok (.ifCond .ne 12, 3) := by decide +kernel
theorem dX11_answer_52 : decode cX11_answer 52 = .ok (.aload_n 0, 1) := by decide +kernel
theorem dX11_answer_53 : decode cX11_answer 53 = .ok (.iload 4, 2) := by decide +kernel
theorem dX11_answer_55 : decode cX11_answer 55 = .ok (.invokevirtual 245, 3) := by decide +kernel
theorem dX11_answer_58 : decode cX11_answer 58 = .ok (.ifCond .eq 7, 3) := by decide +kernel
theorem dX11_answer_61 : decode cX11_answer 61 = .ok (.iconst 1, 1) := by decide +kernel
theorem dX11_answer_62 : decode cX11_answer 62 = .ok (.goto 4, 3) := by decide +kernel
theorem dX11_answer_65 : decode cX11_answer 65 = .ok (.iconst 0, 1) := by decide +kernel
theorem dX11_answer_66 : decode cX11_answer 66 = .ok (.istore_n 3, 1) := by decide +kernel
theorem dX11_answer_67 : decode cX11_answer 67 = .ok (.iinc 4 1, 3) := by decide +kernel
theorem dX11_answer_70 : decode cX11_answer 70 = .ok (.goto (-63), 3) := by decide +kernel
theorem dX11_answer_73 : decode cX11_answer 73 = .ok (.iload_n 2, 1) := by decide +kernel
theorem dX11_answer_74 : decode cX11_answer 74 = .ok (.ifCond .eq 15, 3) := by decide +kernel
theorem dX11_answer_77 : decode cX11_answer 77 = .ok (.iload_n 3, 1) := by decide +kernel
theorem dX11_answer_78 : decode cX11_answer 78 = .ok (.ifCond .eq 7, 3) := by decide +kernel
theorem dX11_answer_81 : decode cX11_answer 81 = .ok (.iconst 2, 1) := by decide +kernel
theorem dX11_answer_82 : decode cX11_answer 82 = .ok (.goto 16, 3) := by decide +kernel
theorem dX11_answer_85 : decode cX11_answer 85 = .ok (.iconst 1, 1) := by decide +kernel
theorem dX11_answer_86 : decode cX11_answer 86 = .ok (.goto 12, 3) := by decide +kernel
theorem dX11_answer_89 : decode cX11_answer 89 = .ok (.iload_n 3, 1) := by decide +kernel
theorem dX11_answer_90 : decode cX11_answer 90 = .ok (.ifCond .eq 7, 3) := by decide +kernel
theorem dX11_answer_93 : decode cX11_answer 93 = .ok (.iconst 0, 1) := by decide +kernel
theorem dX11_answer_94 : decode cX11_answer 94 = .ok (.goto 4, 3) := by decide +kernel
theorem dX11_answer_97 : decode cX11_answer 97 = .ok (.iconst 3, 1) := by decide +kernel
theorem dX11_answer_98 : decode cX11_answer 98 = .ok (.ireturn, 1) := by decide +kernel
theorem dX11_figure_0 : decode cX11_figure 0 = .ok (.aload_n 0, 1) := by decide +kernel
theorem dX11_figure_1 : decode cX11_figure 1 = .ok (.iload_n 1, 1) := by decide +kernel
theorem dX11_figure_2 : decode cX11_figure 2 = .ok (.invokevirtual 233, 3) := by decide +kernel
theorem dX11_figure_5 : decode cX11_figure 5 = .ok (.ifCond .eq 15, 3) := by decide +kernel
theorem dX11_figure_8 : decode cX11_figure 8 = .ok (.iload_n 2, 1) := by decide +kernel
theorem dX11_figure_9 : decode cX11_figure 9 = .ok (.i2l, 1) := by decide +kernel
theorem dX11_figure_10 : decode cX11_figure 10 = .ok (.lconst 0, 1) := by decide +kernel
theorem dX11_figure_11 : decode cX11_figure 11 = .ok (.ldc2_w 118, 3) := by decide +kernel
theorem dX11_figure_14 : decode cX11_figure 14 = .ok (.invokestatic 110, 3) := by decide +kernel
theorem dX11_figure_17 : decode cX11_figure 17 = .ok (.ifCond .ne 6, 3) := by decide +kernel
theorem dX11_figure_20 : decode cX11_figure 20 = .ok (.bipush (-2), 2) := by decide +kernel
theorem dX11_figure_22 : decode cX11_figure 22 = .ok (.ireturn, 1) := by decide +kernel
theorem dX11_figure_23 : decode cX11_figure 23 = .ok (.aload_n 0, 1) := by decide +kernel
theorem dX11_figure_24 : decode cX11_figure 24 = .ok (.getfield 90, 3) := by decide +kernel
theorem dX11_figure_27 : decode cX11_figure 27 = .ok (.iload_n 1, 1) := by decide +kernel
theorem dX11_figure_28 : decode cX11_figure 28 = .ok (.baload, 1) := by decide +kernel
theorem dX11_figure_29 : decode cX11_figure 29 = .ok (.ifCond .eq 12, 3) := by decide +kernel
theorem dX11_figure_32 : decode cX11_figure 32 = .ok (.aload_n 0, 1) := by decide +kernel
theorem dX11_figure_33 : decode cX11_figure 33 = .ok (.getfield 86, 3) := by decide +kernel
theorem dX11_figure_36 : decode cX11_figure 36 = .ok (.iload_n 1, 1) := by decide +kernel
theorem dX11_figure_37 : decode cX11_figure 37 = .ok (.baload, 1) := by decide +kernel
theorem dX11_figure_38 : decode cX11_figure 38 = .ok (.ifCond .eq 5, 3) := by decide +kernel
theorem dX11_figure_41 : decode cX11_figure 41 = .ok (.iconst (-1), 1) := by decide +kernel
theorem dX11_figure_42 : decode cX11_figure 42 = .ok (.ireturn, 1) := by decide +kernel
theorem dX11_figure_43 : decode cX11_figure 43 = .ok (.aload_n 0, 1) := by decide +kernel
theorem dX11_figure_44 : decode cX11_figure 44 = .ok (.getfield 80, 3) := by decide +kernel
theorem dX11_figure_47 : decode cX11_figure 47 = .ok (.bipush 16, 2) := by decide +kernel
theorem dX11_figure_49 : decode cX11_figure 49 = .ok (.iload_n 1, 1) := by decide +kernel
theorem dX11_figure_50 : decode cX11_figure 50 = .ok (.imul, 1) := by decide +kernel
theorem dX11_figure_51 : decode cX11_figure 51 = .ok (.aload_n 0, 1) := by decide +kernel
theorem dX11_figure_52 : decode cX11_figure 52 = .ok (.getfield 77, 3) := by decide +kernel
theorem dX11_figure_55 : decode cX11_figure 55 = .ok (.iload_n 1, 1) := by decide +kernel
theorem dX11_figure_56 : decode cX11_figure 56 = .ok (.iaload, 1) := by decide +kernel
theorem dX11_figure_57 : decode cX11_figure 57 = .ok (.iadd, 1) := by decide +kernel
theorem dX11_figure_58 : decode cX11_figure 58 = .ok (.iload_n 2, 1) := by decide +kernel
theorem dX11_figure_59 : decode cX11_figure 59 = .ok (.iastore, 1) := by decide +kernel
theorem dX11_figure_60 : decode cX11_figure 60 = .ok (.aload_n 0, 1) := by decide +kernel
theorem dX11_figure_61 : decode cX11_figure 61 = .ok (.getfield 77, 3) := by decide +kernel
theorem dX11_figure_64 : decode cX11_figure 64 = .ok (.iload_n 1, 1) := by decide +kernel
theorem dX11_figure_65 : decode cX11_figure 65 = .ok (.dup2, 1) := by decide +kernel
theorem dX11_figure_66 : decode cX11_figure 66 = .ok (.iaload, 1) := by decide +kernel
theorem dX11_figure_67 : decode cX11_figure 67 = .ok (.iconst 1, 1) := by decide +kernel
theorem dX11_figure_68 : decode cX11_figure 68 = .ok (.iadd, 1) := by decide +kernel
theorem dX11_figure_69 : decode cX11_figure 69 = .ok (.iastore, 1) := by decide +kernel
theorem dX11_figure_70 : decode cX11_figure 70 = .ok (.aload_n 0, 1) := by decide +kernel
theorem dX11_figure_71 : decode cX11_figure 71 = .ok (.iload_n 1, 1) := by decide +kernel
theorem dX11_figure_72 : decode cX11_figure 72 = .ok (.invokevirtual 248, 3) := by decide +kernel
theorem dX11_figure_75 : decode cX11_figure 75 = .ok (.aload_n 0, 1) := by decide +kernel
theorem dX11_figure_76 : decode cX11_figure 76 = .ok (.getfield 83, 3) := by decide +kernel
theorem dX11_figure_79 : decode cX11_figure 79 = .ok (.iload_n 1, 1) := by decide +kernel
theorem dX11_figure_80 : decode cX11_figure 80 = .ok (.aload_n 0, 1) := by decide +kernel
theorem dX11_figure_81 : decode cX11_figure 81 = .ok (.aload_n 0, 1) := by decide +kernel
theorem dX11_figure_82 : decode cX11_figure 82 = .ok (.getfield 74, 3) := by decide +kernel
theorem dX11_figure_85 : decode cX11_figure 85 = .ok (.iload_n 1, 1) := by decide +kernel
theorem dX11_figure_86 : decode cX11_figure 86 = .ok (.iaload, 1) := by decide +kernel
theorem dX11_figure_87 : decode cX11_figure 87 = .ok (.invokevirtual 252, 3) := by decide +kernel
theorem dX11_figure_90 : decode cX11_figure 90 = .ok (.iastore, 1) := by decide +kernel
theorem dX11_figure_91 : decode cX11_figure 91 = .ok (.aload_n 0, 1) := by decide +kernel
theorem dX11_figure_92 : decode cX11_figure 92 = .ok (.getfield 86, 3) := by decide +kernel
theorem dX11_figure_95 : decode cX11_figure 95 = .ok (.iload_n 1, 1) := by decide +kernel
theorem dX11_figure_96 : decode cX11_figure 96 = .ok (.aload_n 0, 1) := by decide +kernel
theorem dX11_figure_97 : decode cX11_figure 97 = .ok (.getfield 83, 3) := by decide +kernel
theorem dX11_figure_100 : decode cX11_figure 100 = .ok (.iload_n 1, 1) := by decide +kernel
theorem dX11_figure_101 : decode cX11_figure 101 = .ok (.iaload, 1) := by decide +kernel
theorem dX11_figure_102 : decode cX11_figure 102 = .ok (.iconst 1, 1) := by decide +kernel
theorem dX11_figure_103 : decode cX11_figure 103 = .ok (.iand, 1) := by decide +kernel
theorem dX11_figure_104 : decode cX11_figure 104 = .ok (.iconst 1, 1) := by decide +kernel
theorem dX11_figure_105 : decode cX11_figure 105 = .ok (.if_icmp .ne 7, 3) := by decide +kernel
theorem dX11_figure_108 : decode cX11_figure 108 = .ok (.iconst 1, 1) := by decide +kernel
theorem dX11_figure_109 : decode cX11_figure 109 = .ok (.goto 4, 3) := by decide +kernel
theorem dX11_figure_112 : decode cX11_figure 112 = .ok (.iconst 0, 1) := by decide +kernel
theorem dX11_figure_113 : decode cX11_figure 113 = .ok (.bastore, 1) := by decide +kernel
theorem dX11_figure_114 : decode cX11_figure 114 = .ok (.aload_n 0, 1) := by decide +kernel
theorem dX11_figure_115 : decode cX11_figure 115 = .ok (.getfield 83, 3) := by decide +kernel
theorem dX11_figure_118 : decode cX11_figure 118 = .ok (.iload_n 1, 1) := by decide +kernel
theorem dX11_figure_119 : decode cX11_figure 119 = .ok (.iaload, 1) := by decide +kernel
theorem dX11_figure_120 : decode cX11_figure 120 = .ok (.ireturn, 1) := by decide +kernel
theorem dX11_waits_0 : decode cX11_waits 0 = .ok (.aload_n 0, 1) := by decide +kernel
theorem dX11_waits_1 : decode cX11_waits 1 = .ok (.iload_n 1, 1) := by decide +kernel
theorem dX11_waits_2 : decode cX11_waits 2 = .ok (.invokevirtual 233, 3) := by decide +kernel
theorem dX11_waits_5 : decode cX11_waits 5 = .ok (.ifCond .ne 6, 3) := by decide +kernel
theorem dX11_waits_8 : decode cX11_waits 8 = .ok (.bipush (-2), 2) := by decide +kernel
theorem dX11_waits_10 : decode cX11_waits 10 = .ok (.ireturn, 1) := by decide +kernel
theorem dX11_waits_11 : decode cX11_waits 11 = .ok (.aload_n 0, 1) := by decide +kernel
theorem dX11_waits_12 : decode cX11_waits 12 = .ok (.getfield 90, 3) := by decide +kernel
theorem dX11_waits_15 : decode cX11_waits 15 = .ok (.iload_n 1, 1) := by decide +kernel
theorem dX11_waits_16 : decode cX11_waits 16 = .ok (.baload, 1) := by decide +kernel
theorem dX11_waits_17 : decode cX11_waits 17 = .ok (.ifCond .eq 12, 3) := by decide +kernel
theorem dX11_waits_20 : decode cX11_waits 20 = .ok (.aload_n 0, 1) := by decide +kernel
theorem dX11_waits_21 : decode cX11_waits 21 = .ok (.getfield 86, 3) := by decide +kernel
theorem dX11_waits_24 : decode cX11_waits 24 = .ok (.iload_n 1, 1) := by decide +kernel
theorem dX11_waits_25 : decode cX11_waits 25 = .ok (.baload, 1) := by decide +kernel
theorem dX11_waits_26 : decode cX11_waits 26 = .ok (.ifCond .eq 5, 3) := by decide +kernel
theorem dX11_waits_29 : decode cX11_waits 29 = .ok (.iconst (-1), 1) := by decide +kernel
theorem dX11_waits_30 : decode cX11_waits 30 = .ok (.ireturn, 1) := by decide +kernel
theorem dX11_waits_31 : decode cX11_waits 31 = .ok (.aload_n 0, 1) := by decide +kernel
theorem dX11_waits_32 : decode cX11_waits 32 = .ok (.getfield 83, 3) := by decide +kernel
theorem dX11_waits_35 : decode cX11_waits 35 = .ok (.iload_n 1, 1) := by decide +kernel
theorem dX11_waits_36 : decode cX11_waits 36 = .ok (.iaload, 1) := by decide +kernel
theorem dX11_waits_37 : decode cX11_waits 37 = .ok (.iconst 2, 1) := by decide +kernel
theorem dX11_waits_38 : decode cX11_waits 38 = .ok (.if_icmp .eq 5, 3) := by decide +kernel
theorem dX11_waits_41 : decode cX11_waits 41 = .ok (.iconst 0, 1) := by decide +kernel
theorem dX11_waits_42 : decode cX11_waits 42 = .ok (.ireturn, 1) := by decide +kernel
theorem dX11_waits_43 : decode cX11_waits 43 = .ok (.aload_n 0, 1) := by decide +kernel
theorem dX11_waits_44 : decode cX11_waits 44 = .ok (.getfield 86, 3) := by decide +kernel
theorem dX11_waits_47 : decode cX11_waits 47 = .ok (.iload_n 1, 1) := by decide +kernel
theorem dX11_waits_48 : decode cX11_waits 48 = .ok (.iconst 1, 1) := by decide +kernel
theorem dX11_waits_49 : decode cX11_waits 49 = .ok (.bastore, 1) := by decide +kernel
theorem dX11_waits_50 : decode cX11_waits 50 = .ok (.iconst 1, 1) := by decide +kernel
theorem dX11_waits_51 : decode cX11_waits 51 = .ok (.ireturn, 1) := by decide +kernel
theorem dX11_leadsTo_0 : decode cX11_leadsTo 0 = .ok (.iconst (-1), 1) := by decide +kernel
theorem dX11_leadsTo_1 : decode cX11_leadsTo 1 = .ok (.istore_n 2, 1) := by decide +kernel
theorem dX11_leadsTo_2 : decode cX11_leadsTo 2 = .ok (.iconst 0, 1) := by decide +kernel
theorem dX11_leadsTo_3 : decode cX11_leadsTo 3 = .ok (.istore_n 3, 1) := by decide +kernel
theorem dX11_leadsTo_4 : decode cX11_leadsTo 4 = .ok (.iload_n 3, 1) := by decide +kernel
theorem dX11_leadsTo_5 : decode cX11_leadsTo 5 = .ok (.aload_n 0, 1) := by decide +kernel
theorem dX11_leadsTo_6 : decode cX11_leadsTo 6 = .ok (.getfield 130, 3) := by decide +kernel
theorem dX11_leadsTo_9 : decode cX11_leadsTo 9 = .ok (.if_icmp .ge 49, 3) := by decide +kernel
theorem dX11_leadsTo_12 : decode cX11_leadsTo 12 = .ok (.aload_n 0, 1) := by decide +kernel
theorem dX11_leadsTo_13 : decode cX11_leadsTo 13 = .ok (.iload_n 3, 1) := by decide +kernel
theorem dX11_leadsTo_14 : decode cX11_leadsTo 14 = .ok (.iload_n 1, 1) := by decide +kernel
theorem dX11_leadsTo_15 : decode cX11_leadsTo 15 = .ok (.invokevirtual 197, 3) := by decide +kernel
theorem dX11_leadsTo_18 : decode cX11_leadsTo 18 = .ok (.ifCond .eq 34, 3) := by decide +kernel
theorem dX11_leadsTo_21 : decode cX11_leadsTo 21 = .ok (.aload_n 0, 1) := by decide +kernel
theorem dX11_leadsTo_22 : decode cX11_leadsTo 22 = .ok (.iload_n 3, 1) := by decide +kernel
theorem dX11_leadsTo_23 : decode cX11_leadsTo 23 = .ok (.invokevirtual 242, 3) := by decide +kernel
theorem dX11_leadsTo_26 : decode cX11_leadsTo 26 = .ok (.ifCond .ne 6, 3) := by decide +kernel
theorem dX11_leadsTo_29 : decode cX11_leadsTo 29 = .ok (.goto 23, 3) := by decide +kernel
theorem dX11_leadsTo_32 : decode cX11_leadsTo 32 = .ok (.iload_n 2, 1) := by decide +kernel
theorem dX11_leadsTo_33 : decode cX11_leadsTo 33 = .ok (.iconst (-1), 1) := by decide +kernel
theorem dX11_leadsTo_34 : decode cX11_leadsTo 34 = .ok (.if_icmp .eq 16, 3) := by decide +kernel
theorem dX11_leadsTo_37 : decode cX11_leadsTo 37 = .ok (.aload_n 0, 1) := by decide +kernel
theorem dX11_leadsTo_38 : decode cX11_leadsTo 38 = .ok (.iload_n 3, 1) := by decide +kernel
theorem dX11_leadsTo_39 : decode cX11_leadsTo 39 = .ok (.invokevirtual 255, 3) := by decide +kernel
theorem dX11_leadsTo_42 : decode cX11_leadsTo 42 = .ok (.aload_n 0, 1) := by decide +kernel
theorem dX11_leadsTo_43 : decode cX11_leadsTo 43 = .ok (.iload_n 2, 1) := by decide +kernel
theorem dX11_leadsTo_44 : decode cX11_leadsTo 44 = .ok (.invokevirtual 255, 3) := by decide +kernel
theorem dX11_leadsTo_47 : decode cX11_leadsTo 47 = .ok (.if_icmp .ge 5, 3) := by decide +kernel
theorem dX11_leadsTo_50 : decode cX11_leadsTo 50 = .ok (.iload_n 3, 1) := by decide +kernel
theorem dX11_leadsTo_51 : decode cX11_leadsTo 51 = .ok (.istore_n 2, 1) := by decide +kernel
theorem dX11_leadsTo_52 : decode cX11_leadsTo 52 = .ok (.iinc 3 1, 3) := by decide +kernel
theorem dX11_leadsTo_55 : decode cX11_leadsTo 55 = .ok (.goto (-51), 3) := by decide +kernel
theorem dX11_leadsTo_58 : decode cX11_leadsTo 58 = .ok (.iload_n 2, 1) := by decide +kernel
theorem dX11_leadsTo_59 : decode cX11_leadsTo 59 = .ok (.ireturn, 1) := by decide +kernel
theorem dX11_rank_0 : decode cX11_rank 0 = .ok (.aload_n 0, 1) := by decide +kernel
theorem dX11_rank_1 : decode cX11_rank 1 = .ok (.getfield 7, 3) := by decide +kernel
theorem dX11_rank_4 : decode cX11_rank 4 = .ok (.iload_n 1, 1) := by decide +kernel
theorem dX11_rank_5 : decode cX11_rank 5 = .ok (.iaload, 1) := by decide +kernel
theorem dX11_rank_6 : decode cX11_rank 6 = .ok (.iconst 1, 1) := by decide +kernel
theorem dX11_rank_7 : decode cX11_rank 7 = .ok (.if_icmp .ne 7, 3) := by decide +kernel
theorem dX11_rank_10 : decode cX11_rank 10 = .ok (.iconst 0, 1) := by decide +kernel
theorem dX11_rank_11 : decode cX11_rank 11 = .ok (.goto 31, 3) := by decide +kernel
theorem dX11_rank_14 : decode cX11_rank 14 = .ok (.aload_n 0, 1) := by decide +kernel
theorem dX11_rank_15 : decode cX11_rank 15 = .ok (.getfield 7, 3) := by decide +kernel
theorem dX11_rank_18 : decode cX11_rank 18 = .ok (.iload_n 1, 1) := by decide +kernel
theorem dX11_rank_19 : decode cX11_rank 19 = .ok (.iaload, 1) := by decide +kernel
theorem dX11_rank_20 : decode cX11_rank 20 = .ok (.ifCond .ne 7, 3) := by decide +kernel
theorem dX11_rank_23 : decode cX11_rank 23 = .ok (.iconst 1, 1) := by decide +kernel
theorem dX11_rank_24 : decode cX11_rank 24 = .ok (.goto 18, 3) := by decide +kernel
theorem dX11_rank_27 : decode cX11_rank 27 = .ok (.aload_n 0, 1) := by decide +kernel
theorem dX11_rank_28 : decode cX11_rank 28 = .ok (.getfield 7, 3) := by decide +kernel
theorem dX11_rank_31 : decode cX11_rank 31 = .ok (.iload_n 1, 1) := by decide +kernel
theorem dX11_rank_32 : decode cX11_rank 32 = .ok (.iaload, 1) := by decide +kernel
theorem dX11_rank_33 : decode cX11_rank 33 = .ok (.iconst 3, 1) := by decide +kernel
theorem dX11_rank_34 : decode cX11_rank 34 = .ok (.if_icmp .ne 7, 3) := by decide +kernel
theorem dX11_rank_37 : decode cX11_rank 37 = .ok (.iconst 2, 1) := by decide +kernel
theorem dX11_rank_38 : decode cX11_rank 38 = .ok (.goto 4, 3) := by decide +kernel
theorem dX11_rank_41 : decode cX11_rank 41 = .ok (.iconst 3, 1) := by decide +kernel
theorem dX11_rank_42 : decode cX11_rank 42 = .ok (.ireturn, 1) := by decide +kernel
theorem dX11_lineOf_0 : decode cX11_lineOf 0 = .ok (.iload_n 1, 1) := by decide +kernel
theorem dX11_lineOf_1 : decode cX11_lineOf 1 = .ok (.iconst (-1), 1) := by decide +kernel
theorem dX11_lineOf_2 : decode cX11_lineOf 2 = .ok (.if_icmp .eq 23, 3) := by decide +kernel
theorem dX11_lineOf_5 : decode cX11_lineOf 5 = .ok (.aload_n 0, 1) := by decide +kernel
theorem dX11_lineOf_6 : decode cX11_lineOf 6 = .ok (.getfield 7, 3) := by decide +kernel
theorem dX11_lineOf_9 : decode cX11_lineOf 9 = .ok (.iload_n 1, 1) := by decide +kernel
theorem dX11_lineOf_10 : decode cX11_lineOf 10 = .ok (.iaload, 1) := by decide +kernel
theorem dX11_lineOf_11 : decode cX11_lineOf 11 = .ok (.iconst 1, 1) := by decide +kernel
theorem dX11_lineOf_12 : decode cX11_lineOf 12 = .ok (.if_icmp .eq 13, 3) := by decide +kernel
theorem dX11_lineOf_15 : decode cX11_lineOf 15 = .ok (.aload_n 0, 1) := by decide +kernel
theorem dX11_lineOf_16 : decode cX11_lineOf 16 = .ok (.getfield 7, 3) := by decide +kernel
theorem dX11_lineOf_19 : decode cX11_lineOf 19 = .ok (.iload_n 1, 1) := by decide +kernel
theorem dX11_lineOf_20 : decode cX11_lineOf 20 = .ok (.iaload, 1) := by decide +kernel
theorem dX11_lineOf_21 : decode cX11_lineOf 21 = .ok (.iconst 2, 1) := by decide +kernel
theorem dX11_lineOf_22 : decode cX11_lineOf 22 = .ok (.if_icmp .ne 5, 3) := by decide +kernel
theorem dX11_lineOf_25 : decode cX11_lineOf 25 = .ok (.iconst (-1), 1) := by decide +kernel
theorem dX11_lineOf_26 : decode cX11_lineOf 26 = .ok (.ireturn, 1) := by decide +kernel
theorem dX11_lineOf_27 : decode cX11_lineOf 27 = .ok (.lconst 1, 1) := by decide +kernel
theorem dX11_lineOf_28 : decode cX11_lineOf 28 = .ok (.lstore_n 3, 1) := by decide +kernel
theorem dX11_lineOf_29 : decode cX11_lineOf 29 = .ok (.aload_n 0, 1) := by decide +kernel
theorem dX11_lineOf_30 : decode cX11_lineOf 30 = .ok (.getfield 16, 3) := by decide +kernel
theorem dX11_lineOf_33 : decode cX11_lineOf 33 = .ok (.iload_n 1, 1) := by decide +kernel
theorem dX11_lineOf_34 : decode cX11_lineOf 34 = .ok (.iaload, 1) := by decide +kernel
theorem dX11_lineOf_35 : decode cX11_lineOf 35 = .ok (.invokestatic 139, 3) := by decide +kernel
theorem dX11_lineOf_38 : decode cX11_lineOf 38 = .ok (.istore 5, 2) := by decide +kernel
theorem dX11_lineOf_40 : decode cX11_lineOf 40 = .ok (.iload 5, 2) := by decide +kernel
theorem dX11_lineOf_42 : decode cX11_lineOf 42 = .ok (.aload_n 0, 1) := by decide +kernel
theorem dX11_lineOf_43 : decode cX11_lineOf 43 = .ok (.getfield 236, 3) := by decide +kernel
theorem dX11_lineOf_46 : decode cX11_lineOf 46 = .ok (.if_icmp .ge 24, 3) := by decide +kernel
theorem dX11_lineOf_49 : decode cX11_lineOf 49 = .ok (.ldc2_w 120, 3) := by decide +kernel
theorem dX11_lineOf_52 : decode cX11_lineOf 52 = .ok (.lload_n 3, 1) := by decide +kernel
theorem dX11_lineOf_53 : decode cX11_lineOf 53 = .ok (.lmul, 1) := by decide +kernel
theorem dX11_lineOf_54 : decode cX11_lineOf 54 = .ok (.aload_n 0, 1) := by decide +kernel
theorem dX11_lineOf_55 : decode cX11_lineOf 55 = .ok (.getfield 93, 3) := by decide +kernel
theorem dX11_lineOf_58 : decode cX11_lineOf 58 = .ok (.iload 5, 2) := by decide +kernel
theorem dX11_lineOf_60 : decode cX11_lineOf 60 = .ok (.iaload, 1) := by decide +kernel
theorem dX11_lineOf_61 : decode cX11_lineOf 61 = .ok (.i2l, 1) := by decide +kernel
theorem dX11_lineOf_62 : decode cX11_lineOf 62 = .ok (.ladd, 1) := by decide +kernel
theorem dX11_lineOf_63 : decode cX11_lineOf 63 = .ok (.lstore_n 3, 1) := by decide +kernel
theorem dX11_lineOf_64 : decode cX11_lineOf 64 = .ok (.iinc 5 1, 3) := by decide +kernel
theorem dX11_lineOf_67 : decode cX11_lineOf 67 = .ok (.goto (-27), 3) := by decide +kernel
theorem dX11_lineOf_70 : decode cX11_lineOf 70 = .ok (.aload_n 0, 1) := by decide +kernel
theorem dX11_lineOf_71 : decode cX11_lineOf 71 = .ok (.getfield 7, 3) := by decide +kernel
theorem dX11_lineOf_74 : decode cX11_lineOf 74 = .ok (.iload_n 1, 1) := by decide +kernel
theorem dX11_lineOf_75 : decode cX11_lineOf 75 = .ok (.iaload, 1) := by decide +kernel
theorem dX11_lineOf_76 : decode cX11_lineOf 76 = .ok (.ifCond .ne 7, 3) := by decide +kernel
theorem dX11_lineOf_79 : decode cX11_lineOf 79 = .ok (.iload_n 1, 1) := by decide +kernel
theorem dX11_lineOf_80 : decode cX11_lineOf 80 = .ok (.goto 15, 3) := by decide +kernel
theorem dX11_lineOf_83 : decode cX11_lineOf 83 = .ok (.aload_n 0, 1) := by decide +kernel
theorem dX11_lineOf_84 : decode cX11_lineOf 84 = .ok (.aload_n 0, 1) := by decide +kernel
theorem dX11_lineOf_85 : decode cX11_lineOf 85 = .ok (.getfield 13, 3) := by decide +kernel
theorem dX11_lineOf_88 : decode cX11_lineOf 88 = .ok (.iload_n 1, 1) := by decide +kernel
theorem dX11_lineOf_89 : decode cX11_lineOf 89 = .ok (.iaload, 1) := by decide +kernel
theorem dX11_lineOf_90 : decode cX11_lineOf 90 = .ok (.lload_n 3, 1) := by decide +kernel
theorem dX11_lineOf_91 : decode cX11_lineOf 91 = .ok (.iload_n 2, 1) := by decide +kernel
theorem dX11_lineOf_92 : decode cX11_lineOf 92 = .ok (.invokevirtual 203, 3) := by decide +kernel
theorem dX11_lineOf_95 : decode cX11_lineOf 95 = .ok (.istore 5, 2) := by decide +kernel
theorem dX11_lineOf_97 : decode cX11_lineOf 97 = .ok (.iload 5, 2) := by decide +kernel
theorem dX11_lineOf_99 : decode cX11_lineOf 99 = .ok (.iconst (-1), 1) := by decide +kernel
theorem dX11_lineOf_100 : decode cX11_lineOf 100 = .ok (.if_icmp .ne 7, 3) := by decide +kernel
theorem dX11_lineOf_103 : decode cX11_lineOf 103 = .ok (.iconst (-1), 1) := by decide +kernel
theorem dX11_lineOf_104 : decode cX11_lineOf 104 = .ok (.goto 11, 3) := by decide +kernel
theorem dX11_lineOf_107 : decode cX11_lineOf 107 = .ok (.aload_n 0, 1) := by decide +kernel
theorem dX11_lineOf_108 : decode cX11_lineOf 108 = .ok (.iload 5, 2) := by decide +kernel
theorem dX11_lineOf_110 : decode cX11_lineOf 110 = .ok (.lload_n 3, 1) := by decide +kernel
theorem dX11_lineOf_111 : decode cX11_lineOf 111 = .ok (.iload_n 2, 1) := by decide +kernel
theorem dX11_lineOf_112 : decode cX11_lineOf 112 = .ok (.invokevirtual 213, 3) := by decide +kernel
theorem dX11_lineOf_115 : decode cX11_lineOf 115 = .ok (.ireturn, 1) := by decide +kernel
theorem dX11_told_0 : decode cX11_told 0 = .ok (.aload_n 0, 1) := by decide +kernel
theorem dX11_told_1 : decode cX11_told 1 = .ok (.iload_n 1, 1) := by decide +kernel
theorem dX11_told_2 : decode cX11_told 2 = .ok (.invokevirtual 233, 3) := by decide +kernel
theorem dX11_told_5 : decode cX11_told 5 = .ok (.ifCond .eq 12, 3) := by decide +kernel
theorem dX11_told_8 : decode cX11_told 8 = .ok (.aload_n 0, 1) := by decide +kernel
theorem dX11_told_9 : decode cX11_told 9 = .ok (.getfield 90, 3) := by decide +kernel
theorem dX11_told_12 : decode cX11_told 12 = .ok (.iload_n 1, 1) := by decide +kernel
theorem dX11_told_13 : decode cX11_told 13 = .ok (.baload, 1) := by decide +kernel
theorem dX11_told_14 : decode cX11_told 14 = .ok (.ifCond .ne 5, 3) := by decide +kernel
theorem dX11_told_17 : decode cX11_told 17 = .ok (.iconst (-1), 1) := by decide +kernel
theorem dX11_told_18 : decode cX11_told 18 = .ok (.ireturn, 1) := by decide +kernel
theorem dX11_told_19 : decode cX11_told 19 = .ok (.aload_n 0, 1) := by decide +kernel
theorem dX11_told_20 : decode cX11_told 20 = .ok (.iload_n 1, 1) := by decide +kernel
theorem dX11_told_21 : decode cX11_told 21 = .ok (.invokevirtual 248, 3) := by decide +kernel
theorem dX11_told_24 : decode cX11_told 24 = .ok (.aload_n 0, 1) := by decide +kernel
theorem dX11_told_25 : decode cX11_told 25 = .ok (.getfield 74, 3) := by decide +kernel
theorem dX11_told_28 : decode cX11_told 28 = .ok (.iload_n 1, 1) := by decide +kernel
theorem dX11_told_29 : decode cX11_told 29 = .ok (.iaload, 1) := by decide +kernel
theorem dX11_told_30 : decode cX11_told 30 = .ok (.istore_n 3, 1) := by decide +kernel
theorem dX11_told_31 : decode cX11_told 31 = .ok (.iload_n 2, 1) := by decide +kernel
theorem dX11_told_32 : decode cX11_told 32 = .ok (.tableswitch 221 0 10 #[60, 65, 72, 87, 89, 95, 106, 136, 172, 191, 191], 60) := by decide +kernel
theorem dX11_told_92 : decode cX11_told 92 = .ok (.aload_n 0, 1) := by decide +kernel
theorem dX11_told_93 : decode cX11_told 93 = .ok (.getfield 236, 3) := by decide +kernel
theorem dX11_told_96 : decode cX11_told 96 = .ok (.ireturn, 1) := by decide +kernel
theorem dX11_told_97 : decode cX11_told 97 = .ok (.aload_n 0, 1) := by decide +kernel
theorem dX11_told_98 : decode cX11_told 98 = .ok (.getfield 83, 3) := by decide +kernel
theorem dX11_told_101 : decode cX11_told 101 = .ok (.iload_n 1, 1) := by decide +kernel
theorem dX11_told_102 : decode cX11_told 102 = .ok (.iaload, 1) := by decide +kernel
theorem dX11_told_103 : decode cX11_told 103 = .ok (.ireturn, 1) := by decide +kernel
theorem dX11_told_104 : decode cX11_told 104 = .ok (.aload_n 0, 1) := by decide +kernel
theorem dX11_told_105 : decode cX11_told 105 = .ok (.getfield 86, 3) := by decide +kernel
theorem dX11_told_108 : decode cX11_told 108 = .ok (.iload_n 1, 1) := by decide +kernel
theorem dX11_told_109 : decode cX11_told 109 = .ok (.baload, 1) := by decide +kernel
theorem dX11_told_110 : decode cX11_told 110 = .ok (.ifCond .eq 7, 3) := by decide +kernel
theorem dX11_told_113 : decode cX11_told 113 = .ok (.iconst 1, 1) := by decide +kernel
theorem dX11_told_114 : decode cX11_told 114 = .ok (.goto 4, 3) := by decide +kernel
theorem dX11_told_117 : decode cX11_told 117 = .ok (.iconst 0, 1) := by decide +kernel
theorem dX11_told_118 : decode cX11_told 118 = .ok (.ireturn, 1) := by decide +kernel
theorem dX11_told_119 : decode cX11_told 119 = .ok (.iload_n 3, 1) := by decide +kernel
theorem dX11_told_120 : decode cX11_told 120 = .ok (.ireturn, 1) := by decide +kernel
theorem dX11_told_121 : decode cX11_told 121 = .ok (.aload_n 0, 1) := by decide +kernel
theorem dX11_told_122 : decode cX11_told 122 = .ok (.iload_n 3, 1) := by decide +kernel
theorem dX11_told_123 : decode cX11_told 123 = .ok (.invokevirtual 258, 3) := by decide +kernel
theorem dX11_told_126 : decode cX11_told 126 = .ok (.ireturn, 1) := by decide +kernel
theorem dX11_told_127 : decode cX11_told 127 = .ok (.aload_n 0, 1) := by decide +kernel
theorem dX11_told_128 : decode cX11_told 128 = .ok (.aload_n 0, 1) := by decide +kernel
theorem dX11_told_129 : decode cX11_told 129 = .ok (.iload_n 3, 1) := by decide +kernel
theorem dX11_told_130 : decode cX11_told 130 = .ok (.invokevirtual 258, 3) := by decide +kernel
theorem dX11_told_133 : decode cX11_told 133 = .ok (.iload_n 3, 1) := by decide +kernel
theorem dX11_told_134 : decode cX11_told 134 = .ok (.invokevirtual 261, 3) := by decide +kernel
theorem dX11_told_137 : decode cX11_told 137 = .ok (.ireturn, 1) := by decide +kernel
theorem dX11_told_138 : decode cX11_told 138 = .ok (.aload_n 0, 1) := by decide +kernel
theorem dX11_told_139 : decode cX11_told 139 = .ok (.aload_n 0, 1) := by decide +kernel
theorem dX11_told_140 : decode cX11_told 140 = .ok (.iload_n 3, 1) := by decide +kernel
theorem dX11_told_141 : decode cX11_told 141 = .ok (.invokevirtual 258, 3) := by decide +kernel
theorem dX11_told_144 : decode cX11_told 144 = .ok (.iload_n 3, 1) := by decide +kernel
theorem dX11_told_145 : decode cX11_told 145 = .ok (.invokevirtual 261, 3) := by decide +kernel
theorem dX11_told_148 : decode cX11_told 148 = .ok (.istore 4, 2) := by decide +kernel
theorem dX11_told_150 : decode cX11_told 150 = .ok (.iload 4, 2) := by decide +kernel
theorem dX11_told_152 : decode cX11_told 152 = .ok (.iconst (-1), 1) := by decide +kernel
theorem dX11_told_153 : decode cX11_told 153 = .ok (.if_icmp .ne 7, 3) := by decide +kernel
theorem dX11_told_156 : decode cX11_told 156 = .ok (.iconst (-1), 1) := by decide +kernel
theorem dX11_told_157 : decode cX11_told 157 = .ok (.goto 10, 3) := by decide +kernel
theorem dX11_told_160 : decode cX11_told 160 = .ok (.aload_n 0, 1) := by decide +kernel
theorem dX11_told_161 : decode cX11_told 161 = .ok (.iload 4, 2) := by decide +kernel
theorem dX11_told_163 : decode cX11_told 163 = .ok (.iload_n 3, 1) := by decide +kernel
theorem dX11_told_164 : decode cX11_told 164 = .ok (.invokevirtual 222, 3) := by decide +kernel
theorem dX11_told_167 : decode cX11_told 167 = .ok (.ireturn, 1) := by decide +kernel
theorem dX11_told_168 : decode cX11_told 168 = .ok (.aload_n 0, 1) := by decide +kernel
theorem dX11_told_169 : decode cX11_told 169 = .ok (.iload_n 3, 1) := by decide +kernel
theorem dX11_told_170 : decode cX11_told 170 = .ok (.invokevirtual 258, 3) := by decide +kernel
theorem dX11_told_173 : decode cX11_told 173 = .ok (.istore 4, 2) := by decide +kernel
theorem dX11_told_175 : decode cX11_told 175 = .ok (.iload 4, 2) := by decide +kernel
theorem dX11_told_177 : decode cX11_told 177 = .ok (.iconst (-1), 1) := by decide +kernel
theorem dX11_told_178 : decode cX11_told 178 = .ok (.if_icmp .eq 24, 3) := by decide +kernel
theorem dX11_told_181 : decode cX11_told 181 = .ok (.aload_n 0, 1) := by decide +kernel
theorem dX11_told_182 : decode cX11_told 182 = .ok (.getfield 7, 3) := by decide +kernel
theorem dX11_told_185 : decode cX11_told 185 = .ok (.iload 4, 2) := by decide +kernel
theorem dX11_told_187 : decode cX11_told 187 = .ok (.iaload, 1) := by decide +kernel
theorem dX11_told_188 : decode cX11_told 188 = .ok (.iconst 1, 1) := by decide +kernel
theorem dX11_told_189 : decode cX11_told 189 = .ok (.if_icmp .ne 13, 3) := by decide +kernel
theorem dX11_told_192 : decode cX11_told 192 = .ok (.aload_n 0, 1) := by decide +kernel
theorem dX11_told_193 : decode cX11_told 193 = .ok (.getfield 13, 3) := by decide +kernel
theorem dX11_told_196 : decode cX11_told 196 = .ok (.iload 4, 2) := by decide +kernel
theorem dX11_told_198 : decode cX11_told 198 = .ok (.iaload, 1) := by decide +kernel
theorem dX11_told_199 : decode cX11_told 199 = .ok (.goto 4, 3) := by decide +kernel
theorem dX11_told_202 : decode cX11_told 202 = .ok (.iconst (-1), 1) := by decide +kernel
theorem dX11_told_203 : decode cX11_told 203 = .ok (.ireturn, 1) := by decide +kernel
theorem dX11_told_204 : decode cX11_told 204 = .ok (.aload_n 0, 1) := by decide +kernel
theorem dX11_told_205 : decode cX11_told 205 = .ok (.getfield 86, 3) := by decide +kernel
theorem dX11_told_208 : decode cX11_told 208 = .ok (.iload_n 1, 1) := by decide +kernel
theorem dX11_told_209 : decode cX11_told 209 = .ok (.baload, 1) := by decide +kernel
theorem dX11_told_210 : decode cX11_told 210 = .ok (.ifCond .eq 7, 3) := by decide +kernel
theorem dX11_told_213 : decode cX11_told 213 = .ok (.iconst 0, 1) := by decide +kernel
theorem dX11_told_214 : decode cX11_told 214 = .ok (.goto 8, 3) := by decide +kernel
theorem dX11_told_217 : decode cX11_told 217 = .ok (.aload_n 0, 1) := by decide +kernel
theorem dX11_told_218 : decode cX11_told 218 = .ok (.iload_n 3, 1) := by decide +kernel
theorem dX11_told_219 : decode cX11_told 219 = .ok (.invokevirtual 264, 3) := by decide +kernel
theorem dX11_told_222 : decode cX11_told 222 = .ok (.ireturn, 1) := by decide +kernel
theorem dX11_told_223 : decode cX11_told 223 = .ok (.aload_n 0, 1) := by decide +kernel
theorem dX11_told_224 : decode cX11_told 224 = .ok (.getfield 86, 3) := by decide +kernel
theorem dX11_told_227 : decode cX11_told 227 = .ok (.iload_n 1, 1) := by decide +kernel
theorem dX11_told_228 : decode cX11_told 228 = .ok (.baload, 1) := by decide +kernel
theorem dX11_told_229 : decode cX11_told 229 = .ok (.ifCond .eq 7, 3) := by decide +kernel
theorem dX11_told_232 : decode cX11_told 232 = .ok (.iconst (-1), 1) := by decide +kernel
theorem dX11_told_233 : decode cX11_told 233 = .ok (.goto 19, 3) := by decide +kernel
theorem dX11_told_236 : decode cX11_told 236 = .ok (.aload_n 0, 1) := by decide +kernel
theorem dX11_told_237 : decode cX11_told 237 = .ok (.iload_n 3, 1) := by decide +kernel
theorem dX11_told_238 : decode cX11_told 238 = .ok (.iload_n 2, 1) := by decide +kernel
theorem dX11_told_239 : decode cX11_told 239 = .ok (.bipush 9, 2) := by decide +kernel
theorem dX11_told_241 : decode cX11_told 241 = .ok (.if_icmp .ne 7, 3) := by decide +kernel
theorem dX11_told_244 : decode cX11_told 244 = .ok (.iconst 1, 1) := by decide +kernel
theorem dX11_told_245 : decode cX11_told 245 = .ok (.goto 4, 3) := by decide +kernel
theorem dX11_told_248 : decode cX11_told 248 = .ok (.iconst 0, 1) := by decide +kernel
theorem dX11_told_249 : decode cX11_told 249 = .ok (.invokevirtual 267, 3) := by decide +kernel
theorem dX11_told_252 : decode cX11_told 252 = .ok (.ireturn, 1) := by decide +kernel
theorem dX11_told_253 : decode cX11_told 253 = .ok (.iconst (-1), 1) := by decide +kernel
theorem dX11_told_254 : decode cX11_told 254 = .ok (.ireturn, 1) := by decide +kernel
theorem dX11_behind_0 : decode cX11_behind 0 = .ok (.iconst 0, 1) := by decide +kernel
theorem dX11_behind_1 : decode cX11_behind 1 = .ok (.istore_n 2, 1) := by decide +kernel
theorem dX11_behind_2 : decode cX11_behind 2 = .ok (.iconst 0, 1) := by decide +kernel
theorem dX11_behind_3 : decode cX11_behind 3 = .ok (.istore_n 3, 1) := by decide +kernel
theorem dX11_behind_4 : decode cX11_behind 4 = .ok (.iload_n 3, 1) := by decide +kernel
theorem dX11_behind_5 : decode cX11_behind 5 = .ok (.aload_n 0, 1) := by decide +kernel
theorem dX11_behind_6 : decode cX11_behind 6 = .ok (.getfield 130, 3) := by decide +kernel
theorem dX11_behind_9 : decode cX11_behind 9 = .ok (.if_icmp .ge 38, 3) := by decide +kernel
theorem dX11_behind_12 : decode cX11_behind 12 = .ok (.aload_n 0, 1) := by decide +kernel
theorem dX11_behind_13 : decode cX11_behind 13 = .ok (.iload_n 3, 1) := by decide +kernel
theorem dX11_behind_14 : decode cX11_behind 14 = .ok (.iload_n 1, 1) := by decide +kernel
theorem dX11_behind_15 : decode cX11_behind 15 = .ok (.invokevirtual 197, 3) := by decide +kernel
theorem dX11_behind_18 : decode cX11_behind 18 = .ok (.ifCond .eq 23, 3) := by decide +kernel
theorem dX11_behind_21 : decode cX11_behind 21 = .ok (.aload_n 0, 1) := by decide +kernel
theorem dX11_behind_22 : decode cX11_behind 22 = .ok (.iload_n 3, 1) := by decide +kernel
theorem dX11_behind_23 : decode cX11_behind 23 = .ok (.invokevirtual 245, 3) := by decide +kernel
theorem dX11_behind_26 : decode cX11_behind 26 = .ok (.ifCond .eq 15, 3) := by decide +kernel
theorem dX11_behind_29 : decode cX11_behind 29 = .ok (.iload_n 2, 1) := by decide +kernel
theorem dX11_behind_30 : decode cX11_behind 30 = .ok (.aload_n 0, 1) := by decide +kernel
theorem dX11_behind_31 : decode cX11_behind 31 = .ok (.iload_n 3, 1) := by decide +kernel
theorem dX11_behind_32 : decode cX11_behind 32 = .ok (.aload_n 0, 1) := by decide +kernel
theorem dX11_behind_33 : decode cX11_behind 33 = .ok (.getfield 236, 3) := by decide +kernel
theorem dX11_behind_36 : decode cX11_behind 36 = .ok (.invokevirtual 187, 3) := by decide +kernel
theorem dX11_behind_39 : decode cX11_behind 39 = .ok (.ior, 1) := by decide +kernel
theorem dX11_behind_40 : decode cX11_behind 40 = .ok (.istore_n 2, 1) := by decide +kernel
theorem dX11_behind_41 : decode cX11_behind 41 = .ok (.iinc 3 1, 3) := by decide +kernel
theorem dX11_behind_44 : decode cX11_behind 44 = .ok (.goto (-40), 3) := by decide +kernel
theorem dX11_behind_47 : decode cX11_behind 47 = .ok (.iload_n 2, 1) := by decide +kernel
theorem dX11_behind_48 : decode cX11_behind 48 = .ok (.ireturn, 1) := by decide +kernel
theorem dX11_toCome_0 : decode cX11_toCome 0 = .ok (.iconst (-1), 1) := by decide +kernel
theorem dX11_toCome_1 : decode cX11_toCome 1 = .ok (.istore_n 3, 1) := by decide +kernel
theorem dX11_toCome_2 : decode cX11_toCome 2 = .ok (.iconst 0, 1) := by decide +kernel
theorem dX11_toCome_3 : decode cX11_toCome 3 = .ok (.istore 4, 2) := by decide +kernel
theorem dX11_toCome_5 : decode cX11_toCome 5 = .ok (.iload 4, 2) := by decide +kernel
theorem dX11_toCome_7 : decode cX11_toCome 7 = .ok (.aload_n 0, 1) := by decide +kernel
theorem dX11_toCome_8 : decode cX11_toCome 8 = .ok (.getfield 130, 3) := by decide +kernel
theorem dX11_toCome_11 : decode cX11_toCome 11 = .ok (.if_icmp .ge 115, 3) := by decide +kernel
theorem dX11_toCome_14 : decode cX11_toCome 14 = .ok (.aload_n 0, 1) := by decide +kernel
theorem dX11_toCome_15 : decode cX11_toCome 15 = .ok (.iload 4, 2) := by decide +kernel
theorem dX11_toCome_17 : decode cX11_toCome 17 = .ok (.iload_n 1, 1) := by decide +kernel
theorem dX11_toCome_18 : decode cX11_toCome 18 = .ok (.invokevirtual 197, 3) := by decide +kernel
theorem dX11_toCome_21 : decode cX11_toCome 21 = .ok (.ifCond .eq 99, 3) := by decide +kernel
theorem dX11_toCome_24 : decode cX11_toCome 24 = .ok (.aload_n 0, 1) := by decide +kernel
theorem dX11_toCome_25 : decode cX11_toCome 25 = .ok (.iload 4, 2) := by decide +kernel
theorem dX11_toCome_27 : decode cX11_toCome 27 = .ok (.invokevirtual 245, 3) := by decide +kernel
theorem dX11_toCome_30 : decode cX11_toCome 30 = .ok (.ifCond .ne 6, 3) := by decide +kernel
theorem dX11_toCome_33 : decode cX11_toCome 33 = .ok (.goto 87, 3) := by decide +kernel
theorem dX11_toCome_36 : decode cX11_toCome 36 = .ok (.aload_n 0, 1) := by decide +kernel
theorem dX11_toCome_37 : decode cX11_toCome 37 = .ok (.getfield 22, 3) := by decide +kernel
theorem dX11_toCome_40 : decode cX11_toCome 40 = .ok (.iload 4, 2) := by decide +kernel
theorem dX11_toCome_42 : decode cX11_toCome 42 = .ok (.iaload, 1) := by decide +kernel
theorem dX11_toCome_43 : decode cX11_toCome 43 = .ok (.aload_n 0, 1) := by decide +kernel
theorem dX11_toCome_44 : decode cX11_toCome 44 = .ok (.getfield 236, 3) := by decide +kernel
theorem dX11_toCome_47 : decode cX11_toCome 47 = .ok (.if_icmp .le 18, 3) := by decide +kernel
theorem dX11_toCome_50 : decode cX11_toCome 50 = .ok (.aload_n 0, 1) := by decide +kernel
theorem dX11_toCome_51 : decode cX11_toCome 51 = .ok (.getfield 22, 3) := by decide +kernel
theorem dX11_toCome_54 : decode cX11_toCome 54 = .ok (.iload 4, 2) := by decide +kernel
theorem dX11_toCome_56 : decode cX11_toCome 56 = .ok (.iaload, 1) := by decide +kernel
theorem dX11_toCome_57 : decode cX11_toCome 57 = .ok (.aload_n 0, 1) := by decide +kernel
theorem dX11_toCome_58 : decode cX11_toCome 58 = .ok (.getfield 236, 3) := by decide +kernel
theorem dX11_toCome_61 : decode cX11_toCome 61 = .ok (.isub, 1) := by decide +kernel
theorem dX11_toCome_62 : decode cX11_toCome 62 = .ok (.goto 4, 3) := by decide +kernel
theorem dX11_toCome_65 : decode cX11_toCome 65 = .ok (.iconst 1, 1) := by decide +kernel
theorem dX11_toCome_66 : decode cX11_toCome 66 = .ok (.istore 5, 2) := by decide +kernel
theorem dX11_toCome_68 : decode cX11_toCome 68 = .ok (.aload_n 0, 1) := by decide +kernel
theorem dX11_toCome_69 : decode cX11_toCome 69 = .ok (.getfield 25, 3) := by decide +kernel
theorem dX11_toCome_72 : decode cX11_toCome 72 = .ok (.iload 4, 2) := by decide +kernel
theorem dX11_toCome_74 : decode cX11_toCome 74 = .ok (.iaload, 1) := by decide +kernel
theorem dX11_toCome_75 : decode cX11_toCome 75 = .ok (.aload_n 0, 1) := by decide +kernel
theorem dX11_toCome_76 : decode cX11_toCome 76 = .ok (.getfield 236, 3) := by decide +kernel
theorem dX11_toCome_79 : decode cX11_toCome 79 = .ok (.isub, 1) := by decide +kernel
theorem dX11_toCome_80 : decode cX11_toCome 80 = .ok (.istore 6, 2) := by decide +kernel
theorem dX11_toCome_82 : decode cX11_toCome 82 = .ok (.iload_n 2, 1) := by decide +kernel
theorem dX11_toCome_83 : decode cX11_toCome 83 = .ok (.ifCond .eq 24, 3) := by decide +kernel
theorem dX11_toCome_86 : decode cX11_toCome 86 = .ok (.iload_n 3, 1) := by decide +kernel
theorem dX11_toCome_87 : decode cX11_toCome 87 = .ok (.iconst (-1), 1) := by decide +kernel
theorem dX11_toCome_88 : decode cX11_toCome 88 = .ok (.if_icmp .eq 9, 3) := by decide +kernel
theorem dX11_toCome_91 : decode cX11_toCome 91 = .ok (.iload 5, 2) := by decide +kernel
theorem dX11_toCome_93 : decode cX11_toCome 93 = .ok (.iload_n 3, 1) := by decide +kernel
theorem dX11_toCome_94 : decode cX11_toCome 94 = .ok (.if_icmp .ge 8, 3) := by decide +kernel
theorem dX11_toCome_97 : decode cX11_toCome 97 = .ok (.iload 5, 2) := by decide +kernel
theorem dX11_toCome_99 : decode cX11_toCome 99 = .ok (.goto 4, 3) := by decide +kernel
theorem dX11_toCome_102 : decode cX11_toCome 102 = .ok (.iload_n 3, 1) := by decide +kernel
theorem dX11_toCome_103 : decode cX11_toCome 103 = .ok (.istore_n 3, 1) := by decide +kernel
theorem dX11_toCome_104 : decode cX11_toCome 104 = .ok (.goto 16, 3) := by decide +kernel
theorem dX11_toCome_107 : decode cX11_toCome 107 = .ok (.iload 6, 2) := by decide +kernel
theorem dX11_toCome_109 : decode cX11_toCome 109 = .ok (.iload_n 3, 1) := by decide +kernel
theorem dX11_toCome_110 : decode cX11_toCome 110 = .ok (.if_icmp .le 8, 3) := by decide +kernel
theorem dX11_toCome_113 : decode cX11_toCome 113 = .ok (.iload 6, 2) := by decide +kernel
theorem dX11_toCome_115 : decode cX11_toCome 115 = .ok (.goto 4, 3) := by decide +kernel
theorem dX11_toCome_118 : decode cX11_toCome 118 = .ok (.iload_n 3, 1) := by decide +kernel
theorem dX11_toCome_119 : decode cX11_toCome 119 = .ok (.istore_n 3, 1) := by decide +kernel
theorem dX11_toCome_120 : decode cX11_toCome 120 = .ok (.iinc 4 1, 3) := by decide +kernel
theorem dX11_toCome_123 : decode cX11_toCome 123 = .ok (.goto (-118), 3) := by decide +kernel
theorem dX11_toCome_126 : decode cX11_toCome 126 = .ok (.iload_n 3, 1) := by decide +kernel
theorem dX11_toCome_127 : decode cX11_toCome 127 = .ok (.ireturn, 1) := by decide +kernel
theorem dX11_leads_0 : decode cX11_leads 0 = .ok (.lload_n 1, 1) := by decide +kernel
theorem dX11_leads_1 : decode cX11_leads 1 = .ok (.invokestatic 122, 3) := by decide +kernel
theorem dX11_leads_4 : decode cX11_leads 4 = .ok (.i2l, 1) := by decide +kernel
theorem dX11_leads_5 : decode cX11_leads 5 = .ok (.lconst 1, 1) := by decide +kernel
theorem dX11_leads_6 : decode cX11_leads 6 = .ok (.ldc2_w 137, 3) := by decide +kernel
theorem dX11_leads_9 : decode cX11_leads 9 = .ok (.invokestatic 110, 3) := by decide +kernel
theorem dX11_leads_12 : decode cX11_leads 12 = .ok (.ifCond .eq 10, 3) := by decide +kernel
theorem dX11_leads_15 : decode cX11_leads 15 = .ok (.iload_n 3, 1) := by decide +kernel
theorem dX11_leads_16 : decode cX11_leads 16 = .ok (.invokestatic 194, 3) := by decide +kernel
theorem dX11_leads_19 : decode cX11_leads 19 = .ok (.ifCond .ne 6, 3) := by decide +kernel
theorem dX11_leads_22 : decode cX11_leads 22 = .ok (.bipush (-2), 2) := by decide +kernel
theorem dX11_leads_24 : decode cX11_leads 24 = .ok (.ireturn, 1) := by decide +kernel
theorem dX11_leads_25 : decode cX11_leads 25 = .ok (.aload_n 0, 1) := by decide +kernel
theorem dX11_leads_26 : decode cX11_leads 26 = .ok (.lload_n 1, 1) := by decide +kernel
theorem dX11_leads_27 : decode cX11_leads 27 = .ok (.invokevirtual 271, 3) := by decide +kernel
theorem dX11_leads_30 : decode cX11_leads 30 = .ok (.aload_n 0, 1) := by decide +kernel
theorem dX11_leads_31 : decode cX11_leads 31 = .ok (.aload_n 0, 1) := by decide +kernel
theorem dX11_leads_32 : decode cX11_leads 32 = .ok (.iload_n 3, 1) := by decide +kernel
theorem dX11_leads_33 : decode cX11_leads 33 = .ok (.invokevirtual 258, 3) := by decide +kernel
theorem dX11_leads_36 : decode cX11_leads 36 = .ok (.iload_n 3, 1) := by decide +kernel
theorem dX11_leads_37 : decode cX11_leads 37 = .ok (.invokevirtual 261, 3) := by decide +kernel
theorem dX11_leads_40 : decode cX11_leads 40 = .ok (.ireturn, 1) := by decide +kernel
theorem dX11_demand_0 : decode cX11_demand 0 = .ok (.iload_n 1, 1) := by decide +kernel
theorem dX11_demand_1 : decode cX11_demand 1 = .ok (.i2l, 1) := by decide +kernel
theorem dX11_demand_2 : decode cX11_demand 2 = .ok (.lconst 0, 1) := by decide +kernel
theorem dX11_demand_3 : decode cX11_demand 3 = .ok (.ldc2_w 137, 3) := by decide +kernel
theorem dX11_demand_6 : decode cX11_demand 6 = .ok (.invokestatic 110, 3) := by decide +kernel
theorem dX11_demand_9 : decode cX11_demand 9 = .ok (.ifCond .eq 27, 3) := by decide +kernel
theorem dX11_demand_12 : decode cX11_demand 12 = .ok (.iload_n 2, 1) := by decide +kernel
theorem dX11_demand_13 : decode cX11_demand 13 = .ok (.i2l, 1) := by decide +kernel
theorem dX11_demand_14 : decode cX11_demand 14 = .ok (.lconst 0, 1) := by decide +kernel
theorem dX11_demand_15 : decode cX11_demand 15 = .ok (.ldc2_w 275, 3) := by decide +kernel
theorem dX11_demand_18 : decode cX11_demand 18 = .ok (.invokestatic 110, 3) := by decide +kernel
theorem dX11_demand_21 : decode cX11_demand 21 = .ok (.ifCond .eq 15, 3) := by decide +kernel
theorem dX11_demand_24 : decode cX11_demand 24 = .ok (.iload_n 3, 1) := by decide +kernel
theorem dX11_demand_25 : decode cX11_demand 25 = .ok (.i2l, 1) := by decide +kernel
theorem dX11_demand_26 : decode cX11_demand 26 = .ok (.lconst 0, 1) := by decide +kernel
theorem dX11_demand_27 : decode cX11_demand 27 = .ok (.ldc2_w 277, 3) := by decide +kernel
theorem dX11_demand_30 : decode cX11_demand 30 = .ok (.invokestatic 110, 3) := by decide +kernel
theorem dX11_demand_33 : decode cX11_demand 33 = .ok (.ifCond .ne 6, 3) := by decide +kernel
theorem dX11_demand_36 : decode cX11_demand 36 = .ok (.bipush (-2), 2) := by decide +kernel
theorem dX11_demand_38 : decode cX11_demand 38 = .ok (.ireturn, 1) := by decide +kernel
theorem dX11_demand_39 : decode cX11_demand 39 = .ok (.aload_n 0, 1) := by decide +kernel
theorem dX11_demand_40 : decode cX11_demand 40 = .ok (.getfield 96, 3) := by decide +kernel
theorem dX11_demand_43 : decode cX11_demand 43 = .ok (.iload_n 1, 1) := by decide +kernel
theorem dX11_demand_44 : decode cX11_demand 44 = .ok (.iaload, 1) := by decide +kernel
theorem dX11_demand_45 : decode cX11_demand 45 = .ok (.istore 4, 2) := by decide +kernel
theorem dX11_demand_47 : decode cX11_demand 47 = .ok (.aload_n 0, 1) := by decide +kernel
theorem dX11_demand_48 : decode cX11_demand 48 = .ok (.getfield 96, 3) := by decide +kernel
theorem dX11_demand_51 : decode cX11_demand 51 = .ok (.iload_n 1, 1) := by decide +kernel
theorem dX11_demand_52 : decode cX11_demand 52 = .ok (.iload_n 2, 1) := by decide +kernel
theorem dX11_demand_53 : decode cX11_demand 53 = .ok (.iastore, 1) := by decide +kernel
theorem dX11_demand_54 : decode cX11_demand 54 = .ok (.aload_n 0, 1) := by decide +kernel
theorem dX11_demand_55 : decode cX11_demand 55 = .ok (.getfield 99, 3) := by decide +kernel
theorem dX11_demand_58 : decode cX11_demand 58 = .ok (.iload_n 1, 1) := by decide +kernel
theorem dX11_demand_59 : decode cX11_demand 59 = .ok (.iload_n 3, 1) := by decide +kernel
theorem dX11_demand_60 : decode cX11_demand 60 = .ok (.iastore, 1) := by decide +kernel
theorem dX11_demand_61 : decode cX11_demand 61 = .ok (.iload 4, 2) := by decide +kernel
theorem dX11_demand_63 : decode cX11_demand 63 = .ok (.ireturn, 1) := by decide +kernel
theorem dX11_numbersOf_0 : decode cX11_numbersOf 0 = .ok (.lconst 0, 1) := by decide +kernel
theorem dX11_numbersOf_1 : decode cX11_numbersOf 1 = .ok (.lstore_n 2, 1) := by decide +kernel
theorem dX11_numbersOf_2 : decode cX11_numbersOf 2 = .ok (.iconst 0, 1) := by decide +kernel
theorem dX11_numbersOf_3 : decode cX11_numbersOf 3 = .ok (.istore 4, 2) := by decide +kernel
theorem dX11_numbersOf_5 : decode cX11_numbersOf 5 = .ok (.iload 4, 2) := by decide +kernel
theorem dX11_numbersOf_7 : decode cX11_numbersOf 7 = .ok (.bipush 10, 2) := by decide +kernel
theorem dX11_numbersOf_9 : decode cX11_numbersOf 9 = .ok (.if_icmp .ge 24, 3) := by decide +kernel
theorem dX11_numbersOf_12 : decode cX11_numbersOf 12 = .ok (.lload_n 2, 1) := by decide +kernel
theorem dX11_numbersOf_13 : decode cX11_numbersOf 13 = .ok (.aload_n 0, 1) := by decide +kernel
theorem dX11_numbersOf_14 : decode cX11_numbersOf 14 = .ok (.getfield 19, 3) := by decide +kernel
theorem dX11_numbersOf_17 : decode cX11_numbersOf 17 = .ok (.iload_n 1, 1) := by decide +kernel
theorem dX11_numbersOf_18 : decode cX11_numbersOf 18 = .ok (.iaload, 1) := by decide +kernel
theorem dX11_numbersOf_19 : decode cX11_numbersOf 19 = .ok (.iload 4, 2) := by decide +kernel
theorem dX11_numbersOf_21 : decode cX11_numbersOf 21 = .ok (.ishr, 1) := by decide +kernel
theorem dX11_numbersOf_22 : decode cX11_numbersOf 22 = .ok (.iconst 1, 1) := by decide +kernel
theorem dX11_numbersOf_23 : decode cX11_numbersOf 23 = .ok (.iand, 1) := by decide +kernel
theorem dX11_numbersOf_24 : decode cX11_numbersOf 24 = .ok (.i2l, 1) := by decide +kernel
theorem dX11_numbersOf_25 : decode cX11_numbersOf 25 = .ok (.ladd, 1) := by decide +kernel
theorem dX11_numbersOf_26 : decode cX11_numbersOf 26 = .ok (.lstore_n 2, 1) := by decide +kernel
theorem dX11_numbersOf_27 : decode cX11_numbersOf 27 = .ok (.iinc 4 1, 3) := by decide +kernel
theorem dX11_numbersOf_30 : decode cX11_numbersOf 30 = .ok (.goto (-25), 3) := by decide +kernel
theorem dX11_numbersOf_33 : decode cX11_numbersOf 33 = .ok (.aload_n 0, 1) := by decide +kernel
theorem dX11_numbersOf_34 : decode cX11_numbersOf 34 = .ok (.getfield 16, 3) := by decide +kernel
theorem dX11_numbersOf_37 : decode cX11_numbersOf 37 = .ok (.iload_n 1, 1) := by decide +kernel
theorem dX11_numbersOf_38 : decode cX11_numbersOf 38 = .ok (.iaload, 1) := by decide +kernel
theorem dX11_numbersOf_39 : decode cX11_numbersOf 39 = .ok (.invokestatic 139, 3) := by decide +kernel
theorem dX11_numbersOf_42 : decode cX11_numbersOf 42 = .ok (.iconst 1, 1) := by decide +kernel
theorem dX11_numbersOf_43 : decode cX11_numbersOf 43 = .ok (.iadd, 1) := by decide +kernel
theorem dX11_numbersOf_44 : decode cX11_numbersOf 44 = .ok (.istore 4, 2) := by decide +kernel
theorem dX11_numbersOf_46 : decode cX11_numbersOf 46 = .ok (.iload 4, 2) := by decide +kernel
theorem dX11_numbersOf_48 : decode cX11_numbersOf 48 = .ok (.aload_n 0, 1) := by decide +kernel
theorem dX11_numbersOf_49 : decode cX11_numbersOf 49 = .ok (.getfield 22, 3) := by decide +kernel
theorem dX11_numbersOf_52 : decode cX11_numbersOf 52 = .ok (.iload_n 1, 1) := by decide +kernel
theorem dX11_numbersOf_53 : decode cX11_numbersOf 53 = .ok (.iaload, 1) := by decide +kernel
theorem dX11_numbersOf_54 : decode cX11_numbersOf 54 = .ok (.if_icmp .ge 15, 3) := by decide +kernel
theorem dX11_numbersOf_57 : decode cX11_numbersOf 57 = .ok (.ldc2_w 120, 3) := by decide +kernel
theorem dX11_numbersOf_60 : decode cX11_numbersOf 60 = .ok (.lload_n 2, 1) := by decide +kernel
theorem dX11_numbersOf_61 : decode cX11_numbersOf 61 = .ok (.lmul, 1) := by decide +kernel
theorem dX11_numbersOf_62 : decode cX11_numbersOf 62 = .ok (.lstore_n 2, 1) := by decide +kernel
theorem dX11_numbersOf_63 : decode cX11_numbersOf 63 = .ok (.iinc 4 1, 3) := by decide +kernel
theorem dX11_numbersOf_66 : decode cX11_numbersOf 66 = .ok (.goto (-20), 3) := by decide +kernel
theorem dX11_numbersOf_69 : decode cX11_numbersOf 69 = .ok (.lload_n 2, 1) := by decide +kernel
theorem dX11_numbersOf_70 : decode cX11_numbersOf 70 = .ok (.lreturn, 1) := by decide +kernel
theorem dX11_roomAt_0 : decode cX11_roomAt 0 = .ok (.lconst 0, 1) := by decide +kernel
theorem dX11_roomAt_1 : decode cX11_roomAt 1 = .ok (.lstore_n 3, 1) := by decide +kernel
theorem dX11_roomAt_2 : decode cX11_roomAt 2 = .ok (.iconst 0, 1) := by decide +kernel
theorem dX11_roomAt_3 : decode cX11_roomAt 3 = .ok (.istore 5, 2) := by decide +kernel
theorem dX11_roomAt_5 : decode cX11_roomAt 5 = .ok (.iload 5, 2) := by decide +kernel
theorem dX11_roomAt_7 : decode cX11_roomAt 7 = .ok (.aload_n 0, 1) := by decide +kernel
theorem dX11_roomAt_8 : decode cX11_roomAt 8 = .ok (.getfield 130, 3) := by decide +kernel
theorem dX11_roomAt_11 : decode cX11_roomAt 11 = .ok (.if_icmp .ge 50, 3) := by decide +kernel
theorem dX11_roomAt_14 : decode cX11_roomAt 14 = .ok (.aload_n 0, 1) := by decide +kernel
theorem dX11_roomAt_15 : decode cX11_roomAt 15 = .ok (.getfield 7, 3) := by decide +kernel
theorem dX11_roomAt_18 : decode cX11_roomAt 18 = .ok (.iload 5, 2) := by decide +kernel
theorem dX11_roomAt_20 : decode cX11_roomAt 20 = .ok (.iaload, 1) := by decide +kernel
theorem dX11_roomAt_21 : decode cX11_roomAt 21 = .ok (.ifCond .ne 34, 3) := by decide +kernel
theorem dX11_roomAt_24 : decode cX11_roomAt 24 = .ok (.aload_n 0, 1) := by decide +kernel
theorem dX11_roomAt_25 : decode cX11_roomAt 25 = .ok (.getfield 13, 3) := by decide +kernel
theorem dX11_roomAt_28 : decode cX11_roomAt 28 = .ok (.iload 5, 2) := by decide +kernel
theorem dX11_roomAt_30 : decode cX11_roomAt 30 = .ok (.iaload, 1) := by decide +kernel
theorem dX11_roomAt_31 : decode cX11_roomAt 31 = .ok (.iload_n 1, 1) := by decide +kernel
theorem dX11_roomAt_32 : decode cX11_roomAt 32 = .ok (.if_icmp .ne 23, 3) := by decide +kernel
theorem dX11_roomAt_35 : decode cX11_roomAt 35 = .ok (.aload_n 0, 1) := by decide +kernel
theorem dX11_roomAt_36 : decode cX11_roomAt 36 = .ok (.iload 5, 2) := by decide +kernel
theorem dX11_roomAt_38 : decode cX11_roomAt 38 = .ok (.iload_n 2, 1) := by decide +kernel
theorem dX11_roomAt_39 : decode cX11_roomAt 39 = .ok (.invokevirtual 197, 3) := by decide +kernel
theorem dX11_roomAt_42 : decode cX11_roomAt 42 = .ok (.ifCond .eq 13, 3) := by decide +kernel
theorem dX11_roomAt_45 : decode cX11_roomAt 45 = .ok (.lload_n 3, 1) := by decide +kernel
theorem dX11_roomAt_46 : decode cX11_roomAt 46 = .ok (.aload_n 0, 1) := by decide +kernel
theorem dX11_roomAt_47 : decode cX11_roomAt 47 = .ok (.getfield 49, 3) := by decide +kernel
theorem dX11_roomAt_50 : decode cX11_roomAt 50 = .ok (.iload 5, 2) := by decide +kernel
theorem dX11_roomAt_52 : decode cX11_roomAt 52 = .ok (.laload, 1) := by decide +kernel
theorem dX11_roomAt_53 : decode cX11_roomAt 53 = .ok (.ladd, 1) := by decide +kernel
theorem dX11_roomAt_54 : decode cX11_roomAt 54 = .ok (.lstore_n 3, 1) := by decide +kernel
theorem dX11_roomAt_55 : decode cX11_roomAt 55 = .ok (.iinc 5 1, 3) := by decide +kernel
theorem dX11_roomAt_58 : decode cX11_roomAt 58 = .ok (.goto (-53), 3) := by decide +kernel
theorem dX11_roomAt_61 : decode cX11_roomAt 61 = .ok (.lload_n 3, 1) := by decide +kernel
theorem dX11_roomAt_62 : decode cX11_roomAt 62 = .ok (.lreturn, 1) := by decide +kernel
theorem dX11_room_0 : decode cX11_room 0 = .ok (.iload_n 1, 1) := by decide +kernel
theorem dX11_room_1 : decode cX11_room 1 = .ok (.i2l, 1) := by decide +kernel
theorem dX11_room_2 : decode cX11_room 2 = .ok (.lconst 0, 1) := by decide +kernel
theorem dX11_room_3 : decode cX11_room 3 = .ok (.ldc2_w 137, 3) := by decide +kernel
theorem dX11_room_6 : decode cX11_room 6 = .ok (.invokestatic 110, 3) := by decide +kernel
theorem dX11_room_9 : decode cX11_room 9 = .ok (.ifCond .eq 19, 3) := by decide +kernel
theorem dX11_room_12 : decode cX11_room 12 = .ok (.iload_n 2, 1) := by decide +kernel
theorem dX11_room_13 : decode cX11_room 13 = .ok (.invokestatic 194, 3) := by decide +kernel
theorem dX11_room_16 : decode cX11_room 16 = .ok (.ifCond .eq 12, 3) := by decide +kernel
theorem dX11_room_19 : decode cX11_room 19 = .ok (.aload_n 0, 1) := by decide +kernel
theorem dX11_room_20 : decode cX11_room 20 = .ok (.iload_n 1, 1) := by decide +kernel
theorem dX11_room_21 : decode cX11_room 21 = .ok (.iload_n 2, 1) := by decide +kernel
theorem dX11_room_22 : decode cX11_room 22 = .ok (.invokevirtual 279, 3) := by decide +kernel
theorem dX11_room_25 : decode cX11_room 25 = .ok (.goto 6, 3) := by decide +kernel
theorem dX11_room_28 : decode cX11_room 28 = .ok (.ldc2_w 283, 3) := by decide +kernel
theorem dX11_room_31 : decode cX11_room 31 = .ok (.lreturn, 1) := by decide +kernel
theorem dX11_makeBase_0 : decode cX11_makeBase 0 = .ok (.aload_n 0, 1) := by decide +kernel
theorem dX11_makeBase_1 : decode cX11_makeBase 1 = .ok (.getfield 114, 3) := by decide +kernel
theorem dX11_makeBase_4 : decode cX11_makeBase 4 = .ok (.bipush 7, 2) := by decide +kernel
theorem dX11_makeBase_6 : decode cX11_makeBase 6 = .ok (.idiv, 1) := by decide +kernel
theorem dX11_makeBase_7 : decode cX11_makeBase 7 = .ok (.istore_n 2, 1) := by decide +kernel
theorem dX11_makeBase_8 : decode cX11_makeBase 8 = .ok (.iload_n 2, 1) := by decide +kernel
theorem dX11_makeBase_9 : decode cX11_makeBase 9 = .ok (.sipush 2000, 3) := by decide +kernel
theorem dX11_makeBase_12 : decode cX11_makeBase 12 = .ok (.if_icmp .gt 24, 3) := by decide +kernel
theorem dX11_makeBase_15 : decode cX11_makeBase 15 = .ok (.aload_n 0, 1) := by decide +kernel
theorem dX11_makeBase_16 : decode cX11_makeBase 16 = .ok (.getfield 105, 3) := by decide +kernel
theorem dX11_makeBase_19 : decode cX11_makeBase 19 = .ok (.iload_n 2, 1) := by decide +kernel
theorem dX11_makeBase_20 : decode cX11_makeBase 20 = .ok (.aload_n 0, 1) := by decide +kernel
theorem dX11_makeBase_21 : decode cX11_makeBase 21 = .ok (.iload_n 1, 1) := by decide +kernel
theorem dX11_makeBase_22 : decode cX11_makeBase 22 = .ok (.bipush 7, 2) := by decide +kernel
theorem dX11_makeBase_24 : decode cX11_makeBase 24 = .ok (.iload_n 2, 1) := by decide +kernel
theorem dX11_makeBase_25 : decode cX11_makeBase 25 = .ok (.imul, 1) := by decide +kernel
theorem dX11_makeBase_26 : decode cX11_makeBase 26 = .ok (.invokevirtual 279, 3) := by decide +kernel
theorem dX11_makeBase_29 : decode cX11_makeBase 29 = .ok (.lastore, 1) := by decide +kernel
theorem dX11_makeBase_30 : decode cX11_makeBase 30 = .ok (.iinc 2 1, 3) := by decide +kernel
theorem dX11_makeBase_33 : decode cX11_makeBase 33 = .ok (.goto (-25), 3) := by decide +kernel
theorem dX11_makeBase_36 : decode cX11_makeBase 36 = .ok (.return_, 1) := by decide +kernel
theorem dX11_shortageWith_0 : decode cX11_shortageWith 0 = .ok (.aload_n 0, 1) := by decide +kernel
theorem dX11_shortageWith_1 : decode cX11_shortageWith 1 = .ok (.getfield 114, 3) := by decide +kernel
theorem dX11_shortageWith_4 : decode cX11_shortageWith 4 = .ok (.bipush 7, 2) := by decide +kernel
theorem dX11_shortageWith_6 : decode cX11_shortageWith 6 = .ok (.idiv, 1) := by decide +kernel
theorem dX11_shortageWith_7 : decode cX11_shortageWith 7 = .ok (.istore_n 3, 1) := by decide +kernel
theorem dX11_shortageWith_8 : decode cX11_shortageWith 8 = .ok (.iload_n 3, 1) := by decide +kernel
theorem dX11_shortageWith_9 : decode cX11_shortageWith 9 = .ok (.sipush 2000, 3) := by decide +kernel
theorem dX11_shortageWith_12 : decode cX11_shortageWith 12 = .ok (.if_icmp .gt 117, 3) := by decide +kernel
theorem dX11_shortageWith_15 : decode cX11_shortageWith 15 = .ok (.aload_n 0, 1) := by decide +kernel
theorem dX11_shortageWith_16 : decode cX11_shortageWith 16 = .ok (.getfield 105, 3) := by decide +kernel
theorem dX11_shortageWith_19 : decode cX11_shortageWith 19 = .ok (.iload_n 3, 1) := by decide +kernel
theorem dX11_shortageWith_20 : decode cX11_shortageWith 20 = .ok (.laload, 1) := by decide +kernel
theorem dX11_shortageWith_21 : decode cX11_shortageWith 21 = .ok (.lstore 4, 2) := by decide +kernel
theorem dX11_shortageWith_23 : decode cX11_shortageWith 23 = .ok (.iconst 0, 1) := by decide +kernel
theorem dX11_shortageWith_24 : decode cX11_shortageWith 24 = .ok (.istore 6, 2) := by decide +kernel
theorem dX11_shortageWith_26 : decode cX11_shortageWith 26 = .ok (.iload 6, 2) := by decide +kernel
theorem dX11_shortageWith_28 : decode cX11_shortageWith 28 = .ok (.aload_n 0, 1) := by decide +kernel
theorem dX11_shortageWith_29 : decode cX11_shortageWith 29 = .ok (.getfield 285, 3) := by decide +kernel
theorem dX11_shortageWith_32 : decode cX11_shortageWith 32 = .ok (.if_icmp .ge 65, 3) := by decide +kernel
theorem dX11_shortageWith_35 : decode cX11_shortageWith 35 = .ok (.iload_n 2, 1) := by decide +kernel
theorem dX11_shortageWith_36 : decode cX11_shortageWith 36 = .ok (.iload 6, 2) := by decide +kernel
theorem dX11_shortageWith_38 : decode cX11_shortageWith 38 = .ok (.ishr, 1) := by decide +kernel
theorem dX11_shortageWith_39 : decode cX11_shortageWith 39 = .ok (.iconst 1, 1) := by decide +kernel
theorem dX11_shortageWith_40 : decode cX11_shortageWith 40 = .ok (.iand, 1) := by decide +kernel
theorem dX11_shortageWith_41 : decode cX11_shortageWith 41 = .ok (.iconst 1, 1) := by decide +kernel
theorem dX11_shortageWith_42 : decode cX11_shortageWith 42 = .ok (.if_icmp .ne 49, 3) := by decide +kernel
theorem dX11_shortageWith_45 : decode cX11_shortageWith 45 = .ok (.aload_n 0, 1) := by decide +kernel
theorem dX11_shortageWith_46 : decode cX11_shortageWith 46 = .ok (.getfield 13, 3) := by decide +kernel
theorem dX11_shortageWith_49 : decode cX11_shortageWith 49 = .ok (.bipush 121, 2) := by decide +kernel
theorem dX11_shortageWith_51 : decode cX11_shortageWith 51 = .ok (.iload 6, 2) := by decide +kernel
theorem dX11_shortageWith_53 : decode cX11_shortageWith 53 = .ok (.iadd, 1) := by decide +kernel
theorem dX11_shortageWith_54 : decode cX11_shortageWith 54 = .ok (.iaload, 1) := by decide +kernel
theorem dX11_shortageWith_55 : decode cX11_shortageWith 55 = .ok (.iload_n 1, 1) := by decide +kernel
theorem dX11_shortageWith_56 : decode cX11_shortageWith 56 = .ok (.if_icmp .ne 35, 3) := by decide +kernel
theorem dX11_shortageWith_59 : decode cX11_shortageWith 59 = .ok (.bipush 7, 2) := by decide +kernel
theorem dX11_shortageWith_61 : decode cX11_shortageWith 61 = .ok (.iload_n 3, 1) := by decide +kernel
theorem dX11_shortageWith_62 : decode cX11_shortageWith 62 = .ok (.imul, 1) := by decide +kernel
theorem dX11_shortageWith_63 : decode cX11_shortageWith 63 = .ok (.aload_n 0, 1) := by decide +kernel
theorem dX11_shortageWith_64 : decode cX11_shortageWith 64 = .ok (.getfield 28, 3) := by decide +kernel
theorem dX11_shortageWith_67 : decode cX11_shortageWith 67 = .ok (.bipush 121, 2) := by decide +kernel
theorem dX11_shortageWith_69 : decode cX11_shortageWith 69 = .ok (.iload 6, 2) := by decide +kernel
theorem dX11_shortageWith_71 : decode cX11_shortageWith 71 = .ok (.iadd, 1) := by decide +kernel
theorem dX11_shortageWith_72 : decode cX11_shortageWith 72 = .ok (.iaload, 1) := by decide +kernel
theorem dX11_shortageWith_73 : decode cX11_shortageWith 73 = .ok (.if_icmp .lt 18, 3) := by decide +kernel
theorem dX11_shortageWith_76 : decode cX11_shortageWith 76 = .ok (.lload 4, 2) := by decide +kernel
theorem dX11_shortageWith_78 : decode cX11_shortageWith 78 = .ok (.aload_n 0, 1) := by decide +kernel
theorem dX11_shortageWith_79 : decode cX11_shortageWith 79 = .ok (.getfield 49, 3) := by decide +kernel
theorem dX11_shortageWith_82 : decode cX11_shortageWith 82 = .ok (.bipush 121, 2) := by decide +kernel
theorem dX11_shortageWith_84 : decode cX11_shortageWith 84 = .ok (.iload 6, 2) := by decide +kernel
theorem dX11_shortageWith_86 : decode cX11_shortageWith 86 = .ok (.iadd, 1) := by decide +kernel
theorem dX11_shortageWith_87 : decode cX11_shortageWith 87 = .ok (.laload, 1) := by decide +kernel
theorem dX11_shortageWith_88 : decode cX11_shortageWith 88 = .ok (.ladd, 1) := by decide +kernel
theorem dX11_shortageWith_89 : decode cX11_shortageWith 89 = .ok (.lstore 4, 2) := by decide +kernel
theorem dX11_shortageWith_91 : decode cX11_shortageWith 91 = .ok (.iinc 6 1, 3) := by decide +kernel
theorem dX11_shortageWith_94 : decode cX11_shortageWith 94 = .ok (.goto (-68), 3) := by decide +kernel
theorem dX11_shortageWith_97 : decode cX11_shortageWith 97 = .ok (.aload_n 0, 1) := by decide +kernel
theorem dX11_shortageWith_98 : decode cX11_shortageWith 98 = .ok (.getfield 96, 3) := by decide +kernel
theorem dX11_shortageWith_101 : decode cX11_shortageWith 101 = .ok (.iload_n 1, 1) := by decide +kernel
theorem dX11_shortageWith_102 : decode cX11_shortageWith 102 = .ok (.iaload, 1) := by decide +kernel
theorem dX11_shortageWith_103 : decode cX11_shortageWith 103 = .ok (.i2l, 1) := by decide +kernel
theorem dX11_shortageWith_104 : decode cX11_shortageWith 104 = .ok (.iload_n 3, 1) := by decide +kernel
theorem dX11_shortageWith_105 : decode cX11_shortageWith 105 = .ok (.i2l, 1) := by decide +kernel
theorem dX11_shortageWith_106 : decode cX11_shortageWith 106 = .ok (.aload_n 0, 1) := by decide +kernel
theorem dX11_shortageWith_107 : decode cX11_shortageWith 107 = .ok (.getfield 99, 3) := by decide +kernel
theorem dX11_shortageWith_110 : decode cX11_shortageWith 110 = .ok (.iload_n 1, 1) := by decide +kernel
theorem dX11_shortageWith_111 : decode cX11_shortageWith 111 = .ok (.iaload, 1) := by decide +kernel
theorem dX11_shortageWith_112 : decode cX11_shortageWith 112 = .ok (.i2l, 1) := by decide +kernel
theorem dX11_shortageWith_113 : decode cX11_shortageWith 113 = .ok (.lmul, 1) := by decide +kernel
theorem dX11_shortageWith_114 : decode cX11_shortageWith 114 = .ok (.ladd, 1) := by decide +kernel
theorem dX11_shortageWith_115 : decode cX11_shortageWith 115 = .ok (.lload 4, 2) := by decide +kernel
theorem dX11_shortageWith_117 : decode cX11_shortageWith 117 = .ok (.lcmp, 1) := by decide +kernel
theorem dX11_shortageWith_118 : decode cX11_shortageWith 118 = .ok (.ifCond .le 5, 3) := by decide +kernel
theorem dX11_shortageWith_121 : decode cX11_shortageWith 121 = .ok (.iload_n 3, 1) := by decide +kernel
theorem dX11_shortageWith_122 : decode cX11_shortageWith 122 = .ok (.ireturn, 1) := by decide +kernel
theorem dX11_shortageWith_123 : decode cX11_shortageWith 123 = .ok (.iinc 3 1, 3) := by decide +kernel
theorem dX11_shortageWith_126 : decode cX11_shortageWith 126 = .ok (.goto (-118), 3) := by decide +kernel
theorem dX11_shortageWith_129 : decode cX11_shortageWith 129 = .ok (.iconst (-1), 1) := by decide +kernel
theorem dX11_shortageWith_130 : decode cX11_shortageWith 130 = .ok (.ireturn, 1) := by decide +kernel
theorem dX11_shortage_0 : decode cX11_shortage 0 = .ok (.iload_n 1, 1) := by decide +kernel
theorem dX11_shortage_1 : decode cX11_shortage 1 = .ok (.i2l, 1) := by decide +kernel
theorem dX11_shortage_2 : decode cX11_shortage 2 = .ok (.lconst 0, 1) := by decide +kernel
theorem dX11_shortage_3 : decode cX11_shortage 3 = .ok (.ldc2_w 137, 3) := by decide +kernel
theorem dX11_shortage_6 : decode cX11_shortage 6 = .ok (.invokestatic 110, 3) := by decide +kernel
theorem dX11_shortage_9 : decode cX11_shortage 9 = .ok (.ifCond .ne 6, 3) := by decide +kernel
theorem dX11_shortage_12 : decode cX11_shortage 12 = .ok (.bipush (-2), 2) := by decide +kernel
theorem dX11_shortage_14 : decode cX11_shortage 14 = .ok (.ireturn, 1) := by decide +kernel
theorem dX11_shortage_15 : decode cX11_shortage 15 = .ok (.aload_n 0, 1) := by decide +kernel
theorem dX11_shortage_16 : decode cX11_shortage 16 = .ok (.iload_n 1, 1) := by decide +kernel
theorem dX11_shortage_17 : decode cX11_shortage 17 = .ok (.invokevirtual 288, 3) := by decide +kernel
theorem dX11_shortage_20 : decode cX11_shortage 20 = .ok (.aload_n 0, 1) := by decide +kernel
theorem dX11_shortage_21 : decode cX11_shortage 21 = .ok (.iload_n 1, 1) := by decide +kernel
theorem dX11_shortage_22 : decode cX11_shortage 22 = .ok (.iconst 0, 1) := by decide +kernel
theorem dX11_shortage_23 : decode cX11_shortage 23 = .ok (.invokevirtual 291, 3) := by decide +kernel
theorem dX11_shortage_26 : decode cX11_shortage 26 = .ok (.ireturn, 1) := by decide +kernel
theorem dX11_mightCome_0 : decode cX11_mightCome 0 = .ok (.aload_n 0, 1) := by decide +kernel
theorem dX11_mightCome_1 : decode cX11_mightCome 1 = .ok (.iload_n 1, 1) := by decide +kernel
theorem dX11_mightCome_2 : decode cX11_mightCome 2 = .ok (.iload_n 2, 1) := by decide +kernel
theorem dX11_mightCome_3 : decode cX11_mightCome 3 = .ok (.iload_n 3, 1) := by decide +kernel
theorem dX11_mightCome_4 : decode cX11_mightCome 4 = .ok (.iload 4, 2) := by decide +kernel
theorem dX11_mightCome_6 : decode cX11_mightCome 6 = .ok (.iload 5, 2) := by decide +kernel
theorem dX11_mightCome_8 : decode cX11_mightCome 8 = .ok (.invokevirtual 153, 3) := by decide +kernel
theorem dX11_mightCome_11 : decode cX11_mightCome 11 = .ok (.ifCond .eq 16, 3) := by decide +kernel
theorem dX11_mightCome_14 : decode cX11_mightCome 14 = .ok (.iload 6, 2) := by decide +kernel
theorem dX11_mightCome_16 : decode cX11_mightCome 16 = .ok (.i2l, 1) := by decide +kernel
theorem dX11_mightCome_17 : decode cX11_mightCome 17 = .ok (.lconst 0, 1) := by decide +kernel
theorem dX11_mightCome_18 : decode cX11_mightCome 18 = .ok (.ldc2_w 277, 3) := by decide +kernel
theorem dX11_mightCome_21 : decode cX11_mightCome 21 = .ok (.invokestatic 110, 3) := by decide +kernel
theorem dX11_mightCome_24 : decode cX11_mightCome 24 = .ok (.ifCond .ne 6, 3) := by decide +kernel
theorem dX11_mightCome_27 : decode cX11_mightCome 27 = .ok (.bipush (-2), 2) := by decide +kernel
theorem dX11_mightCome_29 : decode cX11_mightCome 29 = .ok (.ireturn, 1) := by decide +kernel
theorem dX11_mightCome_30 : decode cX11_mightCome 30 = .ok (.aload_n 0, 1) := by decide +kernel
theorem dX11_mightCome_31 : decode cX11_mightCome 31 = .ok (.getfield 285, 3) := by decide +kernel
theorem dX11_mightCome_34 : decode cX11_mightCome 34 = .ok (.bipush 8, 2) := by decide +kernel
theorem dX11_mightCome_36 : decode cX11_mightCome 36 = .ok (.if_icmp .ne 6, 3) := by decide +kernel
theorem dX11_mightCome_39 : decode cX11_mightCome 39 = .ok (.bipush (-3), 2) := by decide +kernel
theorem dX11_mightCome_41 : decode cX11_mightCome 41 = .ok (.ireturn, 1) := by decide +kernel
theorem dX11_mightCome_42 : decode cX11_mightCome 42 = .ok (.aload_n 0, 1) := by decide +kernel
theorem dX11_mightCome_43 : decode cX11_mightCome 43 = .ok (.bipush 121, 2) := by decide +kernel
theorem dX11_mightCome_45 : decode cX11_mightCome 45 = .ok (.aload_n 0, 1) := by decide +kernel
theorem dX11_mightCome_46 : decode cX11_mightCome 46 = .ok (.getfield 285, 3) := by decide +kernel
theorem dX11_mightCome_49 : decode cX11_mightCome 49 = .ok (.iadd, 1) := by decide +kernel
theorem dX11_mightCome_50 : decode cX11_mightCome 50 = .ok (.iconst 0, 1) := by decide +kernel
theorem dX11_mightCome_51 : decode cX11_mightCome 51 = .ok (.iload_n 1, 1) := by decide +kernel
theorem dX11_mightCome_52 : decode cX11_mightCome 52 = .ok (.iload_n 2, 1) := by decide +kernel
theorem dX11_mightCome_53 : decode cX11_mightCome 53 = .ok (.iload_n 3, 1) := by decide +kernel
theorem dX11_mightCome_54 : decode cX11_mightCome 54 = .ok (.iload 4, 2) := by decide +kernel
theorem dX11_mightCome_56 : decode cX11_mightCome 56 = .ok (.iload 4, 2) := by decide +kernel
theorem dX11_mightCome_58 : decode cX11_mightCome 58 = .ok (.iload 5, 2) := by decide +kernel
theorem dX11_mightCome_60 : decode cX11_mightCome 60 = .ok (.iconst (-1), 1) := by decide +kernel
theorem dX11_mightCome_61 : decode cX11_mightCome 61 = .ok (.invokevirtual 133, 3) := by decide +kernel
theorem dX11_mightCome_64 : decode cX11_mightCome 64 = .ok (.istore 7, 2) := by decide +kernel
theorem dX11_mightCome_66 : decode cX11_mightCome 66 = .ok (.aload_n 0, 1) := by decide +kernel
theorem dX11_mightCome_67 : decode cX11_mightCome 67 = .ok (.getfield 102, 3) := by decide +kernel
theorem dX11_mightCome_70 : decode cX11_mightCome 70 = .ok (.aload_n 0, 1) := by decide +kernel
theorem dX11_mightCome_71 : decode cX11_mightCome 71 = .ok (.getfield 285, 3) := by decide +kernel
theorem dX11_mightCome_74 : decode cX11_mightCome 74 = .ok (.iload 6, 2) := by decide +kernel
theorem dX11_mightCome_76 : decode cX11_mightCome 76 = .ok (.iastore, 1) := by decide +kernel
theorem dX11_mightCome_77 : decode cX11_mightCome 77 = .ok (.aload_n 0, 1) := by decide +kernel
theorem dX11_mightCome_78 : decode cX11_mightCome 78 = .ok (.dup, 1) := by decide +kernel
theorem dX11_mightCome_79 : decode cX11_mightCome 79 = .ok (.getfield 285, 3) := by decide +kernel
theorem dX11_mightCome_82 : decode cX11_mightCome 82 = .ok (.iconst 1, 1) := by decide +kernel
theorem dX11_mightCome_83 : decode cX11_mightCome 83 = .ok (.iadd, 1) := by decide +kernel
theorem dX11_mightCome_84 : decode cX11_mightCome 84 = .ok (.putfield 285, 3) := by decide +kernel
theorem dX11_mightCome_87 : decode cX11_mightCome 87 = .ok (.aload_n 0, 1) := by decide +kernel
theorem dX11_mightCome_88 : decode cX11_mightCome 88 = .ok (.getfield 285, 3) := by decide +kernel
theorem dX11_mightCome_91 : decode cX11_mightCome 91 = .ok (.iconst 1, 1) := by decide +kernel
theorem dX11_mightCome_92 : decode cX11_mightCome 92 = .ok (.isub, 1) := by decide +kernel
theorem dX11_mightCome_93 : decode cX11_mightCome 93 = .ok (.ireturn, 1) := by decide +kernel
theorem dX11_mayAll_0 : decode cX11_mayAll 0 = .ok (.iconst 0, 1) := by decide +kernel
theorem dX11_mayAll_1 : decode cX11_mayAll 1 = .ok (.istore_n 2, 1) := by decide +kernel
theorem dX11_mayAll_2 : decode cX11_mayAll 2 = .ok (.iconst 0, 1) := by decide +kernel
theorem dX11_mayAll_3 : decode cX11_mayAll 3 = .ok (.istore_n 3, 1) := by decide +kernel
theorem dX11_mayAll_4 : decode cX11_mayAll 4 = .ok (.iload_n 3, 1) := by decide +kernel
theorem dX11_mayAll_5 : decode cX11_mayAll 5 = .ok (.aload_n 0, 1) := by decide +kernel
theorem dX11_mayAll_6 : decode cX11_mayAll 6 = .ok (.getfield 285, 3) := by decide +kernel
theorem dX11_mayAll_9 : decode cX11_mayAll 9 = .ok (.if_icmp .ge 156, 3) := by decide +kernel
theorem dX11_mayAll_12 : decode cX11_mayAll 12 = .ok (.iload_n 1, 1) := by decide +kernel
theorem dX11_mayAll_13 : decode cX11_mayAll 13 = .ok (.iload_n 3, 1) := by decide +kernel
theorem dX11_mayAll_14 : decode cX11_mayAll 14 = .ok (.ishr, 1) := by decide +kernel
theorem dX11_mayAll_15 : decode cX11_mayAll 15 = .ok (.iconst 1, 1) := by decide +kernel
theorem dX11_mayAll_16 : decode cX11_mayAll 16 = .ok (.iand, 1) := by decide +kernel
theorem dX11_mayAll_17 : decode cX11_mayAll 17 = .ok (.ifCond .ne 6, 3) := by decide +kernel
theorem dX11_mayAll_20 : decode cX11_mayAll 20 = .ok (.goto 139, 3) := by decide +kernel
theorem dX11_mayAll_23 : decode cX11_mayAll 23 = .ok (.iinc 2 1, 3) := by decide +kernel
theorem dX11_mayAll_26 : decode cX11_mayAll 26 = .ok (.bipush 121, 2) := by decide +kernel
theorem dX11_mayAll_28 : decode cX11_mayAll 28 = .ok (.iload_n 3, 1) := by decide +kernel
theorem dX11_mayAll_29 : decode cX11_mayAll 29 = .ok (.iadd, 1) := by decide +kernel
theorem dX11_mayAll_30 : decode cX11_mayAll 30 = .ok (.istore 4, 2) := by decide +kernel
theorem dX11_mayAll_32 : decode cX11_mayAll 32 = .ok (.aload_n 0, 1) := by decide +kernel
theorem dX11_mayAll_33 : decode cX11_mayAll 33 = .ok (.getfield 28, 3) := by decide +kernel
theorem dX11_mayAll_36 : decode cX11_mayAll 36 = .ok (.iload 4, 2) := by decide +kernel
theorem dX11_mayAll_38 : decode cX11_mayAll 38 = .ok (.iaload, 1) := by decide +kernel
theorem dX11_mayAll_39 : decode cX11_mayAll 39 = .ok (.istore 5, 2) := by decide +kernel
theorem dX11_mayAll_41 : decode cX11_mayAll 41 = .ok (.iload 5, 2) := by decide +kernel
theorem dX11_mayAll_43 : decode cX11_mayAll 43 = .ok (.aload_n 0, 1) := by decide +kernel
theorem dX11_mayAll_44 : decode cX11_mayAll 44 = .ok (.getfield 114, 3) := by decide +kernel
theorem dX11_mayAll_47 : decode cX11_mayAll 47 = .ok (.if_icmp .ge 5, 3) := by decide +kernel
theorem dX11_mayAll_50 : decode cX11_mayAll 50 = .ok (.iconst 0, 1) := by decide +kernel
theorem dX11_mayAll_51 : decode cX11_mayAll 51 = .ok (.ireturn, 1) := by decide +kernel
theorem dX11_mayAll_52 : decode cX11_mayAll 52 = .ok (.iconst 0, 1) := by decide +kernel
theorem dX11_mayAll_53 : decode cX11_mayAll 53 = .ok (.istore 6, 2) := by decide +kernel
theorem dX11_mayAll_55 : decode cX11_mayAll 55 = .ok (.iload 6, 2) := by decide +kernel
theorem dX11_mayAll_57 : decode cX11_mayAll 57 = .ok (.aload_n 0, 1) := by decide +kernel
theorem dX11_mayAll_58 : decode cX11_mayAll 58 = .ok (.getfield 130, 3) := by decide +kernel
theorem dX11_mayAll_61 : decode cX11_mayAll 61 = .ok (.if_icmp .ge 33, 3) := by decide +kernel
theorem dX11_mayAll_64 : decode cX11_mayAll 64 = .ok (.aload_n 0, 1) := by decide +kernel
theorem dX11_mayAll_65 : decode cX11_mayAll 65 = .ok (.iload 6, 2) := by decide +kernel
theorem dX11_mayAll_67 : decode cX11_mayAll 67 = .ok (.iload 5, 2) := by decide +kernel
theorem dX11_mayAll_69 : decode cX11_mayAll 69 = .ok (.invokevirtual 197, 3) := by decide +kernel
theorem dX11_mayAll_72 : decode cX11_mayAll 72 = .ok (.ifCond .eq 16, 3) := by decide +kernel
theorem dX11_mayAll_75 : decode cX11_mayAll 75 = .ok (.aload_n 0, 1) := by decide +kernel
theorem dX11_mayAll_76 : decode cX11_mayAll 76 = .ok (.iload 4, 2) := by decide +kernel
theorem dX11_mayAll_78 : decode cX11_mayAll 78 = .ok (.iload 6, 2) := by decide +kernel
theorem dX11_mayAll_80 : decode cX11_mayAll 80 = .ok (.invokevirtual 200, 3) := by decide +kernel
theorem dX11_mayAll_83 : decode cX11_mayAll 83 = .ok (.ifCond .eq 5, 3) := by decide +kernel
theorem dX11_mayAll_86 : decode cX11_mayAll 86 = .ok (.iconst 0, 1) := by decide +kernel
theorem dX11_mayAll_87 : decode cX11_mayAll 87 = .ok (.ireturn, 1) := by decide +kernel
theorem dX11_mayAll_88 : decode cX11_mayAll 88 = .ok (.iinc 6 1, 3) := by decide +kernel
theorem dX11_mayAll_91 : decode cX11_mayAll 91 = .ok (.goto (-36), 3) := by decide +kernel
theorem dX11_mayAll_94 : decode cX11_mayAll 94 = .ok (.iconst 0, 1) := by decide +kernel
theorem dX11_mayAll_95 : decode cX11_mayAll 95 = .ok (.istore 6, 2) := by decide +kernel
theorem dX11_mayAll_97 : decode cX11_mayAll 97 = .ok (.iload 6, 2) := by decide +kernel
theorem dX11_mayAll_99 : decode cX11_mayAll 99 = .ok (.aload_n 0, 1) := by decide +kernel
theorem dX11_mayAll_100 : decode cX11_mayAll 100 = .ok (.getfield 285, 3) := by decide +kernel
theorem dX11_mayAll_103 : decode cX11_mayAll 103 = .ok (.if_icmp .ge 56, 3) := by decide +kernel
theorem dX11_mayAll_106 : decode cX11_mayAll 106 = .ok (.iload 6, 2) := by decide +kernel
theorem dX11_mayAll_108 : decode cX11_mayAll 108 = .ok (.iload_n 3, 1) := by decide +kernel
theorem dX11_mayAll_109 : decode cX11_mayAll 109 = .ok (.if_icmp .eq 44, 3) := by decide +kernel
theorem dX11_mayAll_112 : decode cX11_mayAll 112 = .ok (.iload_n 1, 1) := by decide +kernel
theorem dX11_mayAll_113 : decode cX11_mayAll 113 = .ok (.iload 6, 2) := by decide +kernel
theorem dX11_mayAll_115 : decode cX11_mayAll 115 = .ok (.ishr, 1) := by decide +kernel
theorem dX11_mayAll_116 : decode cX11_mayAll 116 = .ok (.iconst 1, 1) := by decide +kernel
theorem dX11_mayAll_117 : decode cX11_mayAll 117 = .ok (.iand, 1) := by decide +kernel
theorem dX11_mayAll_118 : decode cX11_mayAll 118 = .ok (.iconst 1, 1) := by decide +kernel
theorem dX11_mayAll_119 : decode cX11_mayAll 119 = .ok (.if_icmp .ne 34, 3) := by decide +kernel
theorem dX11_mayAll_122 : decode cX11_mayAll 122 = .ok (.aload_n 0, 1) := by decide +kernel
theorem dX11_mayAll_123 : decode cX11_mayAll 123 = .ok (.getfield 28, 3) := by decide +kernel
theorem dX11_mayAll_126 : decode cX11_mayAll 126 = .ok (.bipush 121, 2) := by decide +kernel
theorem dX11_mayAll_128 : decode cX11_mayAll 128 = .ok (.iload 6, 2) := by decide +kernel
theorem dX11_mayAll_130 : decode cX11_mayAll 130 = .ok (.iadd, 1) := by decide +kernel
theorem dX11_mayAll_131 : decode cX11_mayAll 131 = .ok (.iaload, 1) := by decide +kernel
theorem dX11_mayAll_132 : decode cX11_mayAll 132 = .ok (.iload 5, 2) := by decide +kernel
theorem dX11_mayAll_134 : decode cX11_mayAll 134 = .ok (.if_icmp .gt 19, 3) := by decide +kernel
theorem dX11_mayAll_137 : decode cX11_mayAll 137 = .ok (.aload_n 0, 1) := by decide +kernel
theorem dX11_mayAll_138 : decode cX11_mayAll 138 = .ok (.iload 4, 2) := by decide +kernel
theorem dX11_mayAll_140 : decode cX11_mayAll 140 = .ok (.bipush 121, 2) := by decide +kernel
theorem dX11_mayAll_142 : decode cX11_mayAll 142 = .ok (.iload 6, 2) := by decide +kernel
theorem dX11_mayAll_144 : decode cX11_mayAll 144 = .ok (.iadd, 1) := by decide +kernel
theorem dX11_mayAll_145 : decode cX11_mayAll 145 = .ok (.invokevirtual 200, 3) := by decide +kernel
theorem dX11_mayAll_148 : decode cX11_mayAll 148 = .ok (.ifCond .eq 5, 3) := by decide +kernel
theorem dX11_mayAll_151 : decode cX11_mayAll 151 = .ok (.iconst 0, 1) := by decide +kernel
theorem dX11_mayAll_152 : decode cX11_mayAll 152 = .ok (.ireturn, 1) := by decide +kernel
theorem dX11_mayAll_153 : decode cX11_mayAll 153 = .ok (.iinc 6 1, 3) := by decide +kernel
theorem dX11_mayAll_156 : decode cX11_mayAll 156 = .ok (.goto (-59), 3) := by decide +kernel
theorem dX11_mayAll_159 : decode cX11_mayAll 159 = .ok (.iinc 3 1, 3) := by decide +kernel
theorem dX11_mayAll_162 : decode cX11_mayAll 162 = .ok (.goto (-158), 3) := by decide +kernel
theorem dX11_mayAll_165 : decode cX11_mayAll 165 = .ok (.aload_n 0, 1) := by decide +kernel
theorem dX11_mayAll_166 : decode cX11_mayAll 166 = .ok (.getfield 130, 3) := by decide +kernel
theorem dX11_mayAll_169 : decode cX11_mayAll 169 = .ok (.iload_n 2, 1) := by decide +kernel
theorem dX11_mayAll_170 : decode cX11_mayAll 170 = .ok (.iadd, 1) := by decide +kernel
theorem dX11_mayAll_171 : decode cX11_mayAll 171 = .ok (.bipush 120, 2) := by decide +kernel
theorem dX11_mayAll_173 : decode cX11_mayAll 173 = .ok (.if_icmp .gt 7, 3) := by decide +kernel
theorem dX11_mayAll_176 : decode cX11_mayAll 176 = .ok (.iconst 1, 1) := by decide +kernel
theorem dX11_mayAll_177 : decode cX11_mayAll 177 = .ok (.goto 4, 3) := by decide +kernel
theorem dX11_mayAll_180 : decode cX11_mayAll 180 = .ok (.iconst 0, 1) := by decide +kernel
theorem dX11_mayAll_181 : decode cX11_mayAll 181 = .ok (.ireturn, 1) := by decide +kernel
theorem dX11_relief_0 : decode cX11_relief 0 = .ok (.iload_n 1, 1) := by decide +kernel
theorem dX11_relief_1 : decode cX11_relief 1 = .ok (.i2l, 1) := by decide +kernel
theorem dX11_relief_2 : decode cX11_relief 2 = .ok (.lconst 0, 1) := by decide +kernel
theorem dX11_relief_3 : decode cX11_relief 3 = .ok (.ldc2_w 137, 3) := by decide +kernel
theorem dX11_relief_6 : decode cX11_relief 6 = .ok (.invokestatic 110, 3) := by decide +kernel
theorem dX11_relief_9 : decode cX11_relief 9 = .ok (.ifCond .eq 15, 3) := by decide +kernel
theorem dX11_relief_12 : decode cX11_relief 12 = .ok (.iload_n 2, 1) := by decide +kernel
theorem dX11_relief_13 : decode cX11_relief 13 = .ok (.i2l, 1) := by decide +kernel
theorem dX11_relief_14 : decode cX11_relief 14 = .ok (.lconst 1, 1) := by decide +kernel
theorem dX11_relief_15 : decode cX11_relief 15 = .ok (.ldc2_w 294, 3) := by decide +kernel
theorem dX11_relief_18 : decode cX11_relief 18 = .ok (.invokestatic 110, 3) := by decide +kernel
theorem dX11_relief_21 : decode cX11_relief 21 = .ok (.ifCond .ne 6, 3) := by decide +kernel
theorem dX11_relief_24 : decode cX11_relief 24 = .ok (.bipush (-2), 2) := by decide +kernel
theorem dX11_relief_26 : decode cX11_relief 26 = .ok (.ireturn, 1) := by decide +kernel
theorem dX11_relief_27 : decode cX11_relief 27 = .ok (.aload_n 0, 1) := by decide +kernel
theorem dX11_relief_28 : decode cX11_relief 28 = .ok (.iload_n 1, 1) := by decide +kernel
theorem dX11_relief_29 : decode cX11_relief 29 = .ok (.invokevirtual 288, 3) := by decide +kernel
theorem dX11_relief_32 : decode cX11_relief 32 = .ok (.aload_n 0, 1) := by decide +kernel
theorem dX11_relief_33 : decode cX11_relief 33 = .ok (.iload_n 1, 1) := by decide +kernel
theorem dX11_relief_34 : decode cX11_relief 34 = .ok (.iconst 0, 1) := by decide +kernel
theorem dX11_relief_35 : decode cX11_relief 35 = .ok (.invokevirtual 291, 3) := by decide +kernel
theorem dX11_relief_38 : decode cX11_relief 38 = .ok (.istore_n 3, 1) := by decide +kernel
theorem dX11_relief_39 : decode cX11_relief 39 = .ok (.iload_n 3, 1) := by decide +kernel
theorem dX11_relief_40 : decode cX11_relief 40 = .ok (.iconst (-1), 1) := by decide +kernel
theorem dX11_relief_41 : decode cX11_relief 41 = .ok (.if_icmp .ne 5, 3) := by decide +kernel
theorem dX11_relief_44 : decode cX11_relief 44 = .ok (.iconst (-1), 1) := by decide +kernel
theorem dX11_relief_45 : decode cX11_relief 45 = .ok (.ireturn, 1) := by decide +kernel
theorem dX11_relief_46 : decode cX11_relief 46 = .ok (.iconst (-1), 1) := by decide +kernel
theorem dX11_relief_47 : decode cX11_relief 47 = .ok (.istore 4, 2) := by decide +kernel
theorem dX11_relief_49 : decode cX11_relief 49 = .ok (.iconst 0, 1) := by decide +kernel
theorem dX11_relief_50 : decode cX11_relief 50 = .ok (.istore 5, 2) := by decide +kernel
theorem dX11_relief_52 : decode cX11_relief 52 = .ok (.iconst 1, 1) := by decide +kernel
theorem dX11_relief_53 : decode cX11_relief 53 = .ok (.istore 6, 2) := by decide +kernel
theorem dX11_relief_55 : decode cX11_relief 55 = .ok (.iload 6, 2) := by decide +kernel
theorem dX11_relief_57 : decode cX11_relief 57 = .ok (.iconst 1, 1) := by decide +kernel
theorem dX11_relief_58 : decode cX11_relief 58 = .ok (.aload_n 0, 1) := by decide +kernel
theorem dX11_relief_59 : decode cX11_relief 59 = .ok (.getfield 285, 3) := by decide +kernel
theorem dX11_relief_62 : decode cX11_relief 62 = .ok (.ishl, 1) := by decide +kernel
theorem dX11_relief_63 : decode cX11_relief 63 = .ok (.if_icmp .ge 116, 3) := by decide +kernel
theorem dX11_relief_66 : decode cX11_relief 66 = .ok (.iconst 0, 1) := by decide +kernel
theorem dX11_relief_67 : decode cX11_relief 67 = .ok (.istore 7, 2) := by decide +kernel
theorem dX11_relief_69 : decode cX11_relief 69 = .ok (.iconst 0, 1) := by decide +kernel
theorem dX11_relief_70 : decode cX11_relief 70 = .ok (.istore 8, 2) := by decide +kernel
theorem dX11_relief_72 : decode cX11_relief 72 = .ok (.iload 8, 2) := by decide +kernel
theorem dX11_relief_74 : decode cX11_relief 74 = .ok (.aload_n 0, 1) := by decide +kernel
theorem dX11_relief_75 : decode cX11_relief 75 = .ok (.getfield 285, 3) := by decide +kernel
theorem dX11_relief_78 : decode cX11_relief 78 = .ok (.if_icmp .ge 36, 3) := by decide +kernel
theorem dX11_relief_81 : decode cX11_relief 81 = .ok (.iload 7, 2) := by decide +kernel
theorem dX11_relief_83 : decode cX11_relief 83 = .ok (.iload 6, 2) := by decide +kernel
theorem dX11_relief_85 : decode cX11_relief 85 = .ok (.iload 8, 2) := by decide +kernel
theorem dX11_relief_87 : decode cX11_relief 87 = .ok (.ishr, 1) := by decide +kernel
theorem dX11_relief_88 : decode cX11_relief 88 = .ok (.iconst 1, 1) := by decide +kernel
theorem dX11_relief_89 : decode cX11_relief 89 = .ok (.iand, 1) := by decide +kernel
theorem dX11_relief_90 : decode cX11_relief 90 = .ok (.iconst 1, 1) := by decide +kernel
theorem dX11_relief_91 : decode cX11_relief 91 = .ok (.if_icmp .ne 13, 3) := by decide +kernel
theorem dX11_relief_94 : decode cX11_relief 94 = .ok (.aload_n 0, 1) := by decide +kernel
theorem dX11_relief_95 : decode cX11_relief 95 = .ok (.getfield 102, 3) := by decide +kernel
theorem dX11_relief_98 : decode cX11_relief 98 = .ok (.iload 8, 2) := by decide +kernel
theorem dX11_relief_100 : decode cX11_relief 100 = .ok (.iaload, 1) := by decide +kernel
theorem dX11_relief_101 : decode cX11_relief 101 = .ok (.goto 4, 3) := by decide +kernel
theorem dX11_relief_104 : decode cX11_relief 104 = .ok (.iconst 0, 1) := by decide +kernel
theorem dX11_relief_105 : decode cX11_relief 105 = .ok (.iadd, 1) := by decide +kernel
theorem dX11_relief_106 : decode cX11_relief 106 = .ok (.istore 7, 2) := by decide +kernel
theorem dX11_relief_108 : decode cX11_relief 108 = .ok (.iinc 8 1, 3) := by decide +kernel
theorem dX11_relief_111 : decode cX11_relief 111 = .ok (.goto (-39), 3) := by decide +kernel
theorem dX11_relief_114 : decode cX11_relief 114 = .ok (.iload 4, 2) := by decide +kernel
theorem dX11_relief_116 : decode cX11_relief 116 = .ok (.iconst (-1), 1) := by decide +kernel
theorem dX11_relief_117 : decode cX11_relief 117 = .ok (.if_icmp .eq 10, 3) := by decide +kernel
theorem dX11_relief_120 : decode cX11_relief 120 = .ok (.iload 7, 2) := by decide +kernel
theorem dX11_relief_122 : decode cX11_relief 122 = .ok (.iload 5, 2) := by decide +kernel
theorem dX11_relief_124 : decode cX11_relief 124 = .ok (.if_icmp .ge 49, 3) := by decide +kernel
theorem dX11_relief_127 : decode cX11_relief 127 = .ok (.aload_n 0, 1) := by decide +kernel
theorem dX11_relief_128 : decode cX11_relief 128 = .ok (.iload 6, 2) := by decide +kernel
theorem dX11_relief_130 : decode cX11_relief 130 = .ok (.invokevirtual 296, 3) := by decide +kernel
theorem dX11_relief_133 : decode cX11_relief 133 = .ok (.ifCond .ne 6, 3) := by decide +kernel
theorem dX11_relief_136 : decode cX11_relief 136 = .ok (.goto 37, 3) := by decide +kernel
theorem dX11_relief_139 : decode cX11_relief 139 = .ok (.aload_n 0, 1) := by decide +kernel
theorem dX11_relief_140 : decode cX11_relief 140 = .ok (.iload_n 1, 1) := by decide +kernel
theorem dX11_relief_141 : decode cX11_relief 141 = .ok (.iload 6, 2) := by decide +kernel
theorem dX11_relief_143 : decode cX11_relief 143 = .ok (.invokevirtual 291, 3) := by decide +kernel
theorem dX11_relief_146 : decode cX11_relief 146 = .ok (.istore 8, 2) := by decide +kernel
theorem dX11_relief_148 : decode cX11_relief 148 = .ok (.iload 8, 2) := by decide +kernel
theorem dX11_relief_150 : decode cX11_relief 150 = .ok (.iconst (-1), 1) := by decide +kernel
theorem dX11_relief_151 : decode cX11_relief 151 = .ok (.if_icmp .eq 14, 3) := by decide +kernel
theorem dX11_relief_154 : decode cX11_relief 154 = .ok (.iload 8, 2) := by decide +kernel
theorem dX11_relief_156 : decode cX11_relief 156 = .ok (.iload_n 3, 1) := by decide +kernel
theorem dX11_relief_157 : decode cX11_relief 157 = .ok (.iload_n 2, 1) := by decide +kernel
theorem dX11_relief_158 : decode cX11_relief 158 = .ok (.iadd, 1) := by decide +kernel
theorem dX11_relief_159 : decode cX11_relief 159 = .ok (.if_icmp .ge 6, 3) := by decide +kernel
theorem dX11_relief_162 : decode cX11_relief 162 = .ok (.goto 11, 3) := by decide +kernel
theorem dX11_relief_165 : decode cX11_relief 165 = .ok (.iload 6, 2) := by decide +kernel
theorem dX11_relief_167 : decode cX11_relief 167 = .ok (.istore 4, 2) := by decide +kernel
theorem dX11_relief_169 : decode cX11_relief 169 = .ok (.iload 7, 2) := by decide +kernel
theorem dX11_relief_171 : decode cX11_relief 171 = .ok (.istore 5, 2) := by decide +kernel
theorem dX11_relief_173 : decode cX11_relief 173 = .ok (.iinc 6 1, 3) := by decide +kernel
theorem dX11_relief_176 : decode cX11_relief 176 = .ok (.goto (-121), 3) := by decide +kernel
theorem dX11_relief_179 : decode cX11_relief 179 = .ok (.iload 4, 2) := by decide +kernel
theorem dX11_relief_181 : decode cX11_relief 181 = .ok (.ireturn, 1) := by decide +kernel
theorem dX11_take_0 : decode cX11_take 0 = .ok (.iload_n 1, 1) := by decide +kernel
theorem dX11_take_1 : decode cX11_take 1 = .ok (.i2l, 1) := by decide +kernel
theorem dX11_take_2 : decode cX11_take 2 = .ok (.lconst 0, 1) := by decide +kernel
theorem dX11_take_3 : decode cX11_take 3 = .ok (.aload_n 0, 1) := by decide +kernel
theorem dX11_take_4 : decode cX11_take 4 = .ok (.getfield 285, 3) := by decide +kernel
theorem dX11_take_7 : decode cX11_take 7 = .ok (.iconst 1, 1) := by decide +kernel
theorem dX11_take_8 : decode cX11_take 8 = .ok (.isub, 1) := by decide +kernel
theorem dX11_take_9 : decode cX11_take 9 = .ok (.i2l, 1) := by decide +kernel
theorem dX11_take_10 : decode cX11_take 10 = .ok (.invokestatic 110, 3) := by decide +kernel
theorem dX11_take_13 : decode cX11_take 13 = .ok (.ifCond .eq 19, 3) := by decide +kernel
theorem dX11_take_16 : decode cX11_take 16 = .ok (.aload_n 0, 1) := by decide +kernel
theorem dX11_take_17 : decode cX11_take 17 = .ok (.getfield 28, 3) := by decide +kernel
theorem dX11_take_20 : decode cX11_take 20 = .ok (.bipush 121, 2) := by decide +kernel
theorem dX11_take_22 : decode cX11_take 22 = .ok (.iload_n 1, 1) := by decide +kernel
theorem dX11_take_23 : decode cX11_take 23 = .ok (.iadd, 1) := by decide +kernel
theorem dX11_take_24 : decode cX11_take 24 = .ok (.iaload, 1) := by decide +kernel
theorem dX11_take_25 : decode cX11_take 25 = .ok (.aload_n 0, 1) := by decide +kernel
theorem dX11_take_26 : decode cX11_take 26 = .ok (.getfield 114, 3) := by decide +kernel
theorem dX11_take_29 : decode cX11_take 29 = .ok (.if_icmp .ge 6, 3) := by decide +kernel
theorem dX11_take_32 : decode cX11_take 32 = .ok (.bipush (-2), 2) := by decide +kernel
theorem dX11_take_34 : decode cX11_take 34 = .ok (.ireturn, 1) := by decide +kernel
theorem dX11_take_35 : decode cX11_take 35 = .ok (.aload_n 0, 1) := by decide +kernel
theorem dX11_take_36 : decode cX11_take 36 = .ok (.getfield 130, 3) := by decide +kernel
theorem dX11_take_39 : decode cX11_take 39 = .ok (.bipush 120, 2) := by decide +kernel
theorem dX11_take_41 : decode cX11_take 41 = .ok (.if_icmp .ne 6, 3) := by decide +kernel
theorem dX11_take_44 : decode cX11_take 44 = .ok (.bipush (-3), 2) := by decide +kernel
theorem dX11_take_46 : decode cX11_take 46 = .ok (.ireturn, 1) := by decide +kernel
theorem dX11_take_47 : decode cX11_take 47 = .ok (.bipush 121, 2) := by decide +kernel
theorem dX11_take_49 : decode cX11_take 49 = .ok (.iload_n 1, 1) := by decide +kernel
theorem dX11_take_50 : decode cX11_take 50 = .ok (.iadd, 1) := by decide +kernel
theorem dX11_take_51 : decode cX11_take 51 = .ok (.istore_n 2, 1) := by decide +kernel
theorem dX11_take_52 : decode cX11_take 52 = .ok (.aload_n 0, 1) := by decide +kernel
theorem dX11_take_53 : decode cX11_take 53 = .ok (.iconst 0, 1) := by decide +kernel
theorem dX11_take_54 : decode cX11_take 54 = .ok (.aload_n 0, 1) := by decide +kernel
theorem dX11_take_55 : decode cX11_take 55 = .ok (.getfield 13, 3) := by decide +kernel
theorem dX11_take_58 : decode cX11_take 58 = .ok (.iload_n 2, 1) := by decide +kernel
theorem dX11_take_59 : decode cX11_take 59 = .ok (.iaload, 1) := by decide +kernel
theorem dX11_take_60 : decode cX11_take 60 = .ok (.aload_n 0, 1) := by decide +kernel
theorem dX11_take_61 : decode cX11_take 61 = .ok (.getfield 16, 3) := by decide +kernel
theorem dX11_take_64 : decode cX11_take 64 = .ok (.iload_n 2, 1) := by decide +kernel
theorem dX11_take_65 : decode cX11_take 65 = .ok (.iaload, 1) := by decide +kernel
theorem dX11_take_66 : decode cX11_take 66 = .ok (.aload_n 0, 1) := by decide +kernel
theorem dX11_take_67 : decode cX11_take 67 = .ok (.getfield 19, 3) := by decide +kernel
theorem dX11_take_70 : decode cX11_take 70 = .ok (.iload_n 2, 1) := by decide +kernel
theorem dX11_take_71 : decode cX11_take 71 = .ok (.iaload, 1) := by decide +kernel
theorem dX11_take_72 : decode cX11_take 72 = .ok (.aload_n 0, 1) := by decide +kernel
theorem dX11_take_73 : decode cX11_take 73 = .ok (.getfield 22, 3) := by decide +kernel
theorem dX11_take_76 : decode cX11_take 76 = .ok (.iload_n 2, 1) := by decide +kernel
theorem dX11_take_77 : decode cX11_take 77 = .ok (.iaload, 1) := by decide +kernel
theorem dX11_take_78 : decode cX11_take 78 = .ok (.aload_n 0, 1) := by decide +kernel
theorem dX11_take_79 : decode cX11_take 79 = .ok (.getfield 22, 3) := by decide +kernel
theorem dX11_take_82 : decode cX11_take 82 = .ok (.iload_n 2, 1) := by decide +kernel
theorem dX11_take_83 : decode cX11_take 83 = .ok (.iaload, 1) := by decide +kernel
theorem dX11_take_84 : decode cX11_take 84 = .ok (.aload_n 0, 1) := by decide +kernel
theorem dX11_take_85 : decode cX11_take 85 = .ok (.getfield 28, 3) := by decide +kernel
theorem dX11_take_88 : decode cX11_take 88 = .ok (.iload_n 2, 1) := by decide +kernel
theorem dX11_take_89 : decode cX11_take 89 = .ok (.iaload, 1) := by decide +kernel
theorem dX11_take_90 : decode cX11_take 90 = .ok (.iconst (-1), 1) := by decide +kernel
theorem dX11_take_91 : decode cX11_take 91 = .ok (.iconst (-1), 1) := by decide +kernel
theorem dX11_take_92 : decode cX11_take 92 = .ok (.invokevirtual 157, 3) := by decide +kernel
theorem dX11_take_95 : decode cX11_take 95 = .ok (.istore_n 3, 1) := by decide +kernel
theorem dX11_take_96 : decode cX11_take 96 = .ok (.aload_n 0, 1) := by decide +kernel
theorem dX11_take_97 : decode cX11_take 97 = .ok (.dup, 1) := by decide +kernel
theorem dX11_take_98 : decode cX11_take 98 = .ok (.getfield 285, 3) := by decide +kernel
theorem dX11_take_101 : decode cX11_take 101 = .ok (.iconst 1, 1) := by decide +kernel
theorem dX11_take_102 : decode cX11_take 102 = .ok (.isub, 1) := by decide +kernel
theorem dX11_take_103 : decode cX11_take 103 = .ok (.putfield 285, 3) := by decide +kernel
theorem dX11_take_106 : decode cX11_take 106 = .ok (.iload_n 1, 1) := by decide +kernel
theorem dX11_take_107 : decode cX11_take 107 = .ok (.istore 4, 2) := by decide +kernel
theorem dX11_take_109 : decode cX11_take 109 = .ok (.iload 4, 2) := by decide +kernel
theorem dX11_take_111 : decode cX11_take 111 = .ok (.aload_n 0, 1) := by decide +kernel
theorem dX11_take_112 : decode cX11_take 112 = .ok (.getfield 285, 3) := by decide +kernel
theorem dX11_take_115 : decode cX11_take 115 = .ok (.if_icmp .ge 89, 3) := by decide +kernel
theorem dX11_take_118 : decode cX11_take 118 = .ok (.bipush 121, 2) := by decide +kernel
theorem dX11_take_120 : decode cX11_take 120 = .ok (.iload 4, 2) := by decide +kernel
theorem dX11_take_122 : decode cX11_take 122 = .ok (.iadd, 1) := by decide +kernel
theorem dX11_take_123 : decode cX11_take 123 = .ok (.iconst 1, 1) := by decide +kernel
theorem dX11_take_124 : decode cX11_take 124 = .ok (.iadd, 1) := by decide +kernel
theorem dX11_take_125 : decode cX11_take 125 = .ok (.istore 5, 2) := by decide +kernel
theorem dX11_take_127 : decode cX11_take 127 = .ok (.aload_n 0, 1) := by decide +kernel
theorem dX11_take_128 : decode cX11_take 128 = .ok (.bipush 121, 2) := by decide +kernel
theorem dX11_take_130 : decode cX11_take 130 = .ok (.iload 4, 2) := by decide +kernel
theorem dX11_take_132 : decode cX11_take 132 = .ok (.iadd, 1) := by decide +kernel
theorem dX11_take_133 : decode cX11_take 133 = .ok (.iconst 0, 1) := by decide +kernel
theorem dX11_take_134 : decode cX11_take 134 = .ok (.aload_n 0, 1) := by decide +kernel
theorem dX11_take_135 : decode cX11_take 135 = .ok (.getfield 13, 3) := by decide +kernel
theorem dX11_take_138 : decode cX11_take 138 = .ok (.iload 5, 2) := by decide +kernel
theorem dX11_take_140 : decode cX11_take 140 = .ok (.iaload, 1) := by decide +kernel
theorem dX11_take_141 : decode cX11_take 141 = .ok (.aload_n 0, 1) := by decide +kernel
theorem dX11_take_142 : decode cX11_take 142 = .ok (.getfield 16, 3) := by decide +kernel
theorem dX11_take_145 : decode cX11_take 145 = .ok (.iload 5, 2) := by decide +kernel
theorem dX11_take_147 : decode cX11_take 147 = .ok (.iaload, 1) := by decide +kernel
theorem dX11_take_148 : decode cX11_take 148 = .ok (.aload_n 0, 1) := by decide +kernel
theorem dX11_take_149 : decode cX11_take 149 = .ok (.getfield 19, 3) := by decide +kernel
theorem dX11_take_152 : decode cX11_take 152 = .ok (.iload 5, 2) := by decide +kernel
theorem dX11_take_154 : decode cX11_take 154 = .ok (.iaload, 1) := by decide +kernel
theorem dX11_take_155 : decode cX11_take 155 = .ok (.aload_n 0, 1) := by decide +kernel
theorem dX11_take_156 : decode cX11_take 156 = .ok (.getfield 22, 3) := by decide +kernel
theorem dX11_take_159 : decode cX11_take 159 = .ok (.iload 5, 2) := by decide +kernel
theorem dX11_take_161 : decode cX11_take 161 = .ok (.iaload, 1) := by decide +kernel
theorem dX11_take_162 : decode cX11_take 162 = .ok (.aload_n 0, 1) := by decide +kernel
theorem dX11_take_163 : decode cX11_take 163 = .ok (.getfield 22, 3) := by decide +kernel
theorem dX11_take_166 : decode cX11_take 166 = .ok (.iload 5, 2) := by decide +kernel
theorem dX11_take_168 : decode cX11_take 168 = .ok (.iaload, 1) := by decide +kernel
theorem dX11_take_169 : decode cX11_take 169 = .ok (.aload_n 0, 1) := by decide +kernel
theorem dX11_take_170 : decode cX11_take 170 = .ok (.getfield 28, 3) := by decide +kernel
theorem dX11_take_173 : decode cX11_take 173 = .ok (.iload 5, 2) := by decide +kernel
theorem dX11_take_175 : decode cX11_take 175 = .ok (.iaload, 1) := by decide +kernel
theorem dX11_take_176 : decode cX11_take 176 = .ok (.iconst (-1), 1) := by decide +kernel
theorem dX11_take_177 : decode cX11_take 177 = .ok (.invokevirtual 133, 3) := by decide +kernel
theorem dX11_take_180 : decode cX11_take 180 = .ok (.istore 6, 2) := by decide +kernel
theorem dX11_take_182 : decode cX11_take 182 = .ok (.aload_n 0, 1) := by decide +kernel
theorem dX11_take_183 : decode cX11_take 183 = .ok (.getfield 102, 3) := by decide +kernel
theorem dX11_take_186 : decode cX11_take 186 = .ok (.iload 4, 2) := by decide +kernel
theorem dX11_take_188 : decode cX11_take 188 = .ok (.aload_n 0, 1) := by decide +kernel
theorem dX11_take_189 : decode cX11_take 189 = .ok (.getfield 102, 3) := by decide +kernel
theorem dX11_take_192 : decode cX11_take 192 = .ok (.iload 4, 2) := by decide +kernel
end
section
theorem dX11_take_194 : decode cX11_take 194 = .ok (.iconst 1, 1) := by decide +kernel
theorem dX11_take_195 : decode cX11_take 195 = .ok (.iadd, 1) := by decide +kernel
theorem dX11_take_196 : decode cX11_take 196 = .ok (.iaload, 1) := by decide +kernel
theorem dX11_take_197 : decode cX11_take 197 = .ok (.iastore, 1) := by decide +kernel
theorem dX11_take_198 : decode cX11_take 198 = .ok (.iinc 4 1, 3) := by decide +kernel
theorem dX11_take_201 : decode cX11_take 201 = .ok (.goto (-92), 3) := by decide +kernel
theorem dX11_take_204 : decode cX11_take 204 = .ok (.iload_n 3, 1) := by decide +kernel
theorem dX11_take_205 : decode cX11_take 205 = .ok (.ireturn, 1) := by decide +kernel
theorem dX11_count_0 : decode cX11_count 0 = .ok (.iconst 0, 1) := by decide +kernel
theorem dX11_count_1 : decode cX11_count 1 = .ok (.istore_n 2, 1) := by decide +kernel
theorem dX11_count_2 : decode cX11_count 2 = .ok (.iload_n 1, 1) := by decide +kernel
theorem dX11_count_3 : decode cX11_count 3 = .ok (.tableswitch 134 0 5 #[37, 42, 47, 52, 57, 95], 37) := by decide +kernel
theorem dX11_count_40 : decode cX11_count 40 = .ok (.aload_n 0, 1) := by decide +kernel
theorem dX11_count_41 : decode cX11_count 41 = .ok (.getfield 130, 3) := by decide +kernel
theorem dX11_count_44 : decode cX11_count 44 = .ok (.ireturn, 1) := by decide +kernel
theorem dX11_count_45 : decode cX11_count 45 = .ok (.aload_n 0, 1) := by decide +kernel
theorem dX11_count_46 : decode cX11_count 46 = .ok (.getfield 207, 3) := by decide +kernel
theorem dX11_count_49 : decode cX11_count 49 = .ok (.ireturn, 1) := by decide +kernel
theorem dX11_count_50 : decode cX11_count 50 = .ok (.aload_n 0, 1) := by decide +kernel
theorem dX11_count_51 : decode cX11_count 51 = .ok (.getfield 285, 3) := by decide +kernel
theorem dX11_count_54 : decode cX11_count 54 = .ok (.ireturn, 1) := by decide +kernel
theorem dX11_count_55 : decode cX11_count 55 = .ok (.aload_n 0, 1) := by decide +kernel
theorem dX11_count_56 : decode cX11_count 56 = .ok (.getfield 114, 3) := by decide +kernel
theorem dX11_count_59 : decode cX11_count 59 = .ok (.ireturn, 1) := by decide +kernel
theorem dX11_count_60 : decode cX11_count 60 = .ok (.iconst 0, 1) := by decide +kernel
theorem dX11_count_61 : decode cX11_count 61 = .ok (.istore_n 3, 1) := by decide +kernel
theorem dX11_count_62 : decode cX11_count 62 = .ok (.iload_n 3, 1) := by decide +kernel
theorem dX11_count_63 : decode cX11_count 63 = .ok (.aload_n 0, 1) := by decide +kernel
theorem dX11_count_64 : decode cX11_count 64 = .ok (.getfield 130, 3) := by decide +kernel
theorem dX11_count_67 : decode cX11_count 67 = .ok (.if_icmp .ge 29, 3) := by decide +kernel
theorem dX11_count_70 : decode cX11_count 70 = .ok (.iload_n 2, 1) := by decide +kernel
theorem dX11_count_71 : decode cX11_count 71 = .ok (.aload_n 0, 1) := by decide +kernel
theorem dX11_count_72 : decode cX11_count 72 = .ok (.iload_n 3, 1) := by decide +kernel
theorem dX11_count_73 : decode cX11_count 73 = .ok (.aload_n 0, 1) := by decide +kernel
theorem dX11_count_74 : decode cX11_count 74 = .ok (.getfield 114, 3) := by decide +kernel
theorem dX11_count_77 : decode cX11_count 77 = .ok (.invokevirtual 197, 3) := by decide +kernel
theorem dX11_count_80 : decode cX11_count 80 = .ok (.ifCond .eq 7, 3) := by decide +kernel
theorem dX11_count_83 : decode cX11_count 83 = .ok (.iconst 1, 1) := by decide +kernel
theorem dX11_count_84 : decode cX11_count 84 = .ok (.goto 4, 3) := by decide +kernel
theorem dX11_count_87 : decode cX11_count 87 = .ok (.iconst 0, 1) := by decide +kernel
theorem dX11_count_88 : decode cX11_count 88 = .ok (.iadd, 1) := by decide +kernel
theorem dX11_count_89 : decode cX11_count 89 = .ok (.istore_n 2, 1) := by decide +kernel
theorem dX11_count_90 : decode cX11_count 90 = .ok (.iinc 3 1, 3) := by decide +kernel
theorem dX11_count_93 : decode cX11_count 93 = .ok (.goto (-31), 3) := by decide +kernel
theorem dX11_count_96 : decode cX11_count 96 = .ok (.iload_n 2, 1) := by decide +kernel
theorem dX11_count_97 : decode cX11_count 97 = .ok (.ireturn, 1) := by decide +kernel
theorem dX11_count_98 : decode cX11_count 98 = .ok (.iconst 0, 1) := by decide +kernel
theorem dX11_count_99 : decode cX11_count 99 = .ok (.istore_n 3, 1) := by decide +kernel
theorem dX11_count_100 : decode cX11_count 100 = .ok (.iload_n 3, 1) := by decide +kernel
theorem dX11_count_101 : decode cX11_count 101 = .ok (.aload_n 0, 1) := by decide +kernel
theorem dX11_count_102 : decode cX11_count 102 = .ok (.getfield 207, 3) := by decide +kernel
theorem dX11_count_105 : decode cX11_count 105 = .ok (.if_icmp .ge 30, 3) := by decide +kernel
theorem dX11_count_108 : decode cX11_count 108 = .ok (.iload_n 2, 1) := by decide +kernel
theorem dX11_count_109 : decode cX11_count 109 = .ok (.aload_n 0, 1) := by decide +kernel
theorem dX11_count_110 : decode cX11_count 110 = .ok (.iload_n 3, 1) := by decide +kernel
theorem dX11_count_111 : decode cX11_count 111 = .ok (.aload_n 0, 1) := by decide +kernel
theorem dX11_count_112 : decode cX11_count 112 = .ok (.getfield 114, 3) := by decide +kernel
theorem dX11_count_115 : decode cX11_count 115 = .ok (.invokevirtual 210, 3) := by decide +kernel
theorem dX11_count_118 : decode cX11_count 118 = .ok (.iconst (-1), 1) := by decide +kernel
theorem dX11_count_119 : decode cX11_count 119 = .ok (.if_icmp .eq 7, 3) := by decide +kernel
theorem dX11_count_122 : decode cX11_count 122 = .ok (.iconst 1, 1) := by decide +kernel
theorem dX11_count_123 : decode cX11_count 123 = .ok (.goto 4, 3) := by decide +kernel
theorem dX11_count_126 : decode cX11_count 126 = .ok (.iconst 0, 1) := by decide +kernel
theorem dX11_count_127 : decode cX11_count 127 = .ok (.iadd, 1) := by decide +kernel
theorem dX11_count_128 : decode cX11_count 128 = .ok (.istore_n 2, 1) := by decide +kernel
theorem dX11_count_129 : decode cX11_count 129 = .ok (.iinc 3 1, 3) := by decide +kernel
theorem dX11_count_132 : decode cX11_count 132 = .ok (.goto (-32), 3) := by decide +kernel
theorem dX11_count_135 : decode cX11_count 135 = .ok (.iload_n 2, 1) := by decide +kernel
theorem dX11_count_136 : decode cX11_count 136 = .ok (.ireturn, 1) := by decide +kernel
theorem dX11_count_137 : decode cX11_count 137 = .ok (.iconst (-1), 1) := by decide +kernel
theorem dX11_count_138 : decode cX11_count 138 = .ok (.ireturn, 1) := by decide +kernel
theorem dJ6_bitCount_0f7a4_0 : decode cJ6_bitCount_0f7a4 0 = .ok (.iload_n 0, 1) := by decide +kernel
theorem dJ6_bitCount_0f7a4_1 : decode cJ6_bitCount_0f7a4 1 = .ok (.iload_n 0, 1) := by decide +kernel
theorem dJ6_bitCount_0f7a4_2 : decode cJ6_bitCount_0f7a4 2 = .ok (.iconst 1, 1) := by decide +kernel
theorem dJ6_bitCount_0f7a4_3 : decode cJ6_bitCount_0f7a4 3 = .ok (.iushr, 1) := by decide +kernel
theorem dJ6_bitCount_0f7a4_4 : decode cJ6_bitCount_0f7a4 4 = .ok (.ldc_w 265, 3) := by decide +kernel
theorem dJ6_bitCount_0f7a4_7 : decode cJ6_bitCount_0f7a4 7 = .ok (.iand, 1) := by decide +kernel
theorem dJ6_bitCount_0f7a4_8 : decode cJ6_bitCount_0f7a4 8 = .ok (.isub, 1) := by decide +kernel
theorem dJ6_bitCount_0f7a4_9 : decode cJ6_bitCount_0f7a4 9 = .ok (.istore_n 0, 1) := by decide +kernel
theorem dJ6_bitCount_0f7a4_10 : decode cJ6_bitCount_0f7a4 10 = .ok (.iload_n 0, 1) := by decide +kernel
theorem dJ6_bitCount_0f7a4_11 : decode cJ6_bitCount_0f7a4 11 = .ok (.ldc_w 266, 3) := by decide +kernel
theorem dJ6_bitCount_0f7a4_14 : decode cJ6_bitCount_0f7a4 14 = .ok (.iand, 1) := by decide +kernel
theorem dJ6_bitCount_0f7a4_15 : decode cJ6_bitCount_0f7a4 15 = .ok (.iload_n 0, 1) := by decide +kernel
theorem dJ6_bitCount_0f7a4_16 : decode cJ6_bitCount_0f7a4 16 = .ok (.iconst 2, 1) := by decide +kernel
theorem dJ6_bitCount_0f7a4_17 : decode cJ6_bitCount_0f7a4 17 = .ok (.iushr, 1) := by decide +kernel
theorem dJ6_bitCount_0f7a4_18 : decode cJ6_bitCount_0f7a4 18 = .ok (.ldc_w 266, 3) := by decide +kernel
theorem dJ6_bitCount_0f7a4_21 : decode cJ6_bitCount_0f7a4 21 = .ok (.iand, 1) := by decide +kernel
theorem dJ6_bitCount_0f7a4_22 : decode cJ6_bitCount_0f7a4 22 = .ok (.iadd, 1) := by decide +kernel
theorem dJ6_bitCount_0f7a4_23 : decode cJ6_bitCount_0f7a4 23 = .ok (.istore_n 0, 1) := by decide +kernel
theorem dJ6_bitCount_0f7a4_24 : decode cJ6_bitCount_0f7a4 24 = .ok (.iload_n 0, 1) := by decide +kernel
theorem dJ6_bitCount_0f7a4_25 : decode cJ6_bitCount_0f7a4 25 = .ok (.iload_n 0, 1) := by decide +kernel
theorem dJ6_bitCount_0f7a4_26 : decode cJ6_bitCount_0f7a4 26 = .ok (.iconst 4, 1) := by decide +kernel
theorem dJ6_bitCount_0f7a4_27 : decode cJ6_bitCount_0f7a4 27 = .ok (.iushr, 1) := by decide +kernel
theorem dJ6_bitCount_0f7a4_28 : decode cJ6_bitCount_0f7a4 28 = .ok (.iadd, 1) := by decide +kernel
theorem dJ6_bitCount_0f7a4_29 : decode cJ6_bitCount_0f7a4 29 = .ok (.ldc_w 267, 3) := by decide +kernel
theorem dJ6_bitCount_0f7a4_32 : decode cJ6_bitCount_0f7a4 32 = .ok (.iand, 1) := by decide +kernel
theorem dJ6_bitCount_0f7a4_33 : decode cJ6_bitCount_0f7a4 33 = .ok (.istore_n 0, 1) := by decide +kernel
theorem dJ6_bitCount_0f7a4_34 : decode cJ6_bitCount_0f7a4 34 = .ok (.iload_n 0, 1) := by decide +kernel
theorem dJ6_bitCount_0f7a4_35 : decode cJ6_bitCount_0f7a4 35 = .ok (.iload_n 0, 1) := by decide +kernel
theorem dJ6_bitCount_0f7a4_36 : decode cJ6_bitCount_0f7a4 36 = .ok (.bipush 8, 2) := by decide +kernel
theorem dJ6_bitCount_0f7a4_38 : decode cJ6_bitCount_0f7a4 38 = .ok (.iushr, 1) := by decide +kernel
theorem dJ6_bitCount_0f7a4_39 : decode cJ6_bitCount_0f7a4 39 = .ok (.iadd, 1) := by decide +kernel
theorem dJ6_bitCount_0f7a4_40 : decode cJ6_bitCount_0f7a4 40 = .ok (.istore_n 0, 1) := by decide +kernel
theorem dJ6_bitCount_0f7a4_41 : decode cJ6_bitCount_0f7a4 41 = .ok (.iload_n 0, 1) := by decide +kernel
theorem dJ6_bitCount_0f7a4_42 : decode cJ6_bitCount_0f7a4 42 = .ok (.iload_n 0, 1) := by decide +kernel
theorem dJ6_bitCount_0f7a4_43 : decode cJ6_bitCount_0f7a4 43 = .ok (.bipush 16, 2) := by decide +kernel
theorem dJ6_bitCount_0f7a4_45 : decode cJ6_bitCount_0f7a4 45 = .ok (.iushr, 1) := by decide +kernel
theorem dJ6_bitCount_0f7a4_46 : decode cJ6_bitCount_0f7a4 46 = .ok (.iadd, 1) := by decide +kernel
theorem dJ6_bitCount_0f7a4_47 : decode cJ6_bitCount_0f7a4 47 = .ok (.istore_n 0, 1) := by decide +kernel
theorem dJ6_bitCount_0f7a4_48 : decode cJ6_bitCount_0f7a4 48 = .ok (.iload_n 0, 1) := by decide +kernel
theorem dJ6_bitCount_0f7a4_49 : decode cJ6_bitCount_0f7a4 49 = .ok (.bipush 63, 2) := by decide +kernel
theorem dJ6_bitCount_0f7a4_51 : decode cJ6_bitCount_0f7a4 51 = .ok (.iand, 1) := by decide +kernel
theorem dJ6_bitCount_0f7a4_52 : decode cJ6_bitCount_0f7a4 52 = .ok (.ireturn, 1) := by decide +kernel
theorem dJ13_bitCount_95d88_0 : decode cJ13_bitCount_95d88 0 = .ok (.lload_n 0, 1) := by decide +kernel
theorem dJ13_bitCount_95d88_1 : decode cJ13_bitCount_95d88 1 = .ok (.lload_n 0, 1) := by decide +kernel
theorem dJ13_bitCount_95d88_2 : decode cJ13_bitCount_95d88 2 = .ok (.iconst 1, 1) := by decide +kernel
theorem dJ13_bitCount_95d88_3 : decode cJ13_bitCount_95d88 3 = .ok (.lushr, 1) := by decide +kernel
theorem dJ13_bitCount_95d88_4 : decode cJ13_bitCount_95d88 4 = .ok (.ldc2_w 314, 3) := by decide +kernel
theorem dJ13_bitCount_95d88_7 : decode cJ13_bitCount_95d88 7 = .ok (.land, 1) := by decide +kernel
theorem dJ13_bitCount_95d88_8 : decode cJ13_bitCount_95d88 8 = .ok (.lsub, 1) := by decide +kernel
theorem dJ13_bitCount_95d88_9 : decode cJ13_bitCount_95d88 9 = .ok (.lstore_n 0, 1) := by decide +kernel
theorem dJ13_bitCount_95d88_10 : decode cJ13_bitCount_95d88 10 = .ok (.lload_n 0, 1) := by decide +kernel
theorem dJ13_bitCount_95d88_11 : decode cJ13_bitCount_95d88 11 = .ok (.ldc2_w 316, 3) := by decide +kernel
theorem dJ13_bitCount_95d88_14 : decode cJ13_bitCount_95d88 14 = .ok (.land, 1) := by decide +kernel
theorem dJ13_bitCount_95d88_15 : decode cJ13_bitCount_95d88 15 = .ok (.lload_n 0, 1) := by decide +kernel
theorem dJ13_bitCount_95d88_16 : decode cJ13_bitCount_95d88 16 = .ok (.iconst 2, 1) := by decide +kernel
theorem dJ13_bitCount_95d88_17 : decode cJ13_bitCount_95d88 17 = .ok (.lushr, 1) := by decide +kernel
theorem dJ13_bitCount_95d88_18 : decode cJ13_bitCount_95d88 18 = .ok (.ldc2_w 316, 3) := by decide +kernel
theorem dJ13_bitCount_95d88_21 : decode cJ13_bitCount_95d88 21 = .ok (.land, 1) := by decide +kernel
theorem dJ13_bitCount_95d88_22 : decode cJ13_bitCount_95d88 22 = .ok (.ladd, 1) := by decide +kernel
theorem dJ13_bitCount_95d88_23 : decode cJ13_bitCount_95d88 23 = .ok (.lstore_n 0, 1) := by decide +kernel
theorem dJ13_bitCount_95d88_24 : decode cJ13_bitCount_95d88 24 = .ok (.lload_n 0, 1) := by decide +kernel
theorem dJ13_bitCount_95d88_25 : decode cJ13_bitCount_95d88 25 = .ok (.lload_n 0, 1) := by decide +kernel
theorem dJ13_bitCount_95d88_26 : decode cJ13_bitCount_95d88 26 = .ok (.iconst 4, 1) := by decide +kernel
theorem dJ13_bitCount_95d88_27 : decode cJ13_bitCount_95d88 27 = .ok (.lushr, 1) := by decide +kernel
theorem dJ13_bitCount_95d88_28 : decode cJ13_bitCount_95d88 28 = .ok (.ladd, 1) := by decide +kernel
theorem dJ13_bitCount_95d88_29 : decode cJ13_bitCount_95d88 29 = .ok (.ldc2_w 318, 3) := by decide +kernel
theorem dJ13_bitCount_95d88_32 : decode cJ13_bitCount_95d88 32 = .ok (.land, 1) := by decide +kernel
theorem dJ13_bitCount_95d88_33 : decode cJ13_bitCount_95d88 33 = .ok (.lstore_n 0, 1) := by decide +kernel
theorem dJ13_bitCount_95d88_34 : decode cJ13_bitCount_95d88 34 = .ok (.lload_n 0, 1) := by decide +kernel
theorem dJ13_bitCount_95d88_35 : decode cJ13_bitCount_95d88 35 = .ok (.lload_n 0, 1) := by decide +kernel
theorem dJ13_bitCount_95d88_36 : decode cJ13_bitCount_95d88 36 = .ok (.bipush 8, 2) := by decide +kernel
theorem dJ13_bitCount_95d88_38 : decode cJ13_bitCount_95d88 38 = .ok (.lushr, 1) := by decide +kernel
theorem dJ13_bitCount_95d88_39 : decode cJ13_bitCount_95d88 39 = .ok (.ladd, 1) := by decide +kernel
theorem dJ13_bitCount_95d88_40 : decode cJ13_bitCount_95d88 40 = .ok (.lstore_n 0, 1) := by decide +kernel
theorem dJ13_bitCount_95d88_41 : decode cJ13_bitCount_95d88 41 = .ok (.lload_n 0, 1) := by decide +kernel
theorem dJ13_bitCount_95d88_42 : decode cJ13_bitCount_95d88 42 = .ok (.lload_n 0, 1) := by decide +kernel
theorem dJ13_bitCount_95d88_43 : decode cJ13_bitCount_95d88 43 = .ok (.bipush 16, 2) := by decide +kernel
theorem dJ13_bitCount_95d88_45 : decode cJ13_bitCount_95d88 45 = .ok (.lushr, 1) := by decide +kernel
theorem dJ13_bitCount_95d88_46 : decode cJ13_bitCount_95d88 46 = .ok (.ladd, 1) := by decide +kernel
theorem dJ13_bitCount_95d88_47 : decode cJ13_bitCount_95d88 47 = .ok (.lstore_n 0, 1) := by decide +kernel
theorem dJ13_bitCount_95d88_48 : decode cJ13_bitCount_95d88 48 = .ok (.lload_n 0, 1) := by decide +kernel
theorem dJ13_bitCount_95d88_49 : decode cJ13_bitCount_95d88 49 = .ok (.lload_n 0, 1) := by decide +kernel
theorem dJ13_bitCount_95d88_50 : decode cJ13_bitCount_95d88 50 = .ok (.bipush 32, 2) := by decide +kernel
theorem dJ13_bitCount_95d88_52 : decode cJ13_bitCount_95d88 52 = .ok (.lushr, 1) := by decide +kernel
theorem dJ13_bitCount_95d88_53 : decode cJ13_bitCount_95d88 53 = .ok (.ladd, 1) := by decide +kernel
theorem dJ13_bitCount_95d88_54 : decode cJ13_bitCount_95d88 54 = .ok (.lstore_n 0, 1) := by decide +kernel
theorem dJ13_bitCount_95d88_55 : decode cJ13_bitCount_95d88 55 = .ok (.lload_n 0, 1) := by decide +kernel
theorem dJ13_bitCount_95d88_56 : decode cJ13_bitCount_95d88 56 = .ok (.l2i, 1) := by decide +kernel
theorem dJ13_bitCount_95d88_57 : decode cJ13_bitCount_95d88 57 = .ok (.bipush 127, 2) := by decide +kernel
theorem dJ13_bitCount_95d88_59 : decode cJ13_bitCount_95d88 59 = .ok (.iand, 1) := by decide +kernel
theorem dJ13_bitCount_95d88_60 : decode cJ13_bitCount_95d88 60 = .ok (.ireturn, 1) := by decide +kernel
theorem dJ9_max_7cf53_0 : decode cJ9_max_7cf53 0 = .ok (.iload_n 0, 1) := by decide +kernel
theorem dJ9_max_7cf53_1 : decode cJ9_max_7cf53 1 = .ok (.iload_n 1, 1) := by decide +kernel
theorem dJ9_max_7cf53_2 : decode cJ9_max_7cf53 2 = .ok (.if_icmp .lt 7, 3) := by decide +kernel
theorem dJ9_max_7cf53_5 : decode cJ9_max_7cf53 5 = .ok (.iload_n 0, 1) := by decide +kernel
theorem dJ9_max_7cf53_6 : decode cJ9_max_7cf53 6 = .ok (.goto 4, 3) := by decide +kernel
theorem dJ9_max_7cf53_9 : decode cJ9_max_7cf53 9 = .ok (.iload_n 1, 1) := by decide +kernel
theorem dJ9_max_7cf53_10 : decode cJ9_max_7cf53 10 = .ok (.ireturn, 1) := by decide +kernel
theorem dJ9_min_7cf53_0 : decode cJ9_min_7cf53 0 = .ok (.iload_n 0, 1) := by decide +kernel
theorem dJ9_min_7cf53_1 : decode cJ9_min_7cf53 1 = .ok (.iload_n 1, 1) := by decide +kernel
theorem dJ9_min_7cf53_2 : decode cJ9_min_7cf53 2 = .ok (.if_icmp .gt 7, 3) := by decide +kernel
theorem dJ9_min_7cf53_5 : decode cJ9_min_7cf53 5 = .ok (.iload_n 0, 1) := by decide +kernel
theorem dJ9_min_7cf53_6 : decode cJ9_min_7cf53 6 = .ok (.goto 4, 3) := by decide +kernel
theorem dJ9_min_7cf53_9 : decode cJ9_min_7cf53 9 = .ok (.iload_n 1, 1) := by decide +kernel
theorem dJ9_min_7cf53_10 : decode cJ9_min_7cf53 10 = .ok (.ireturn, 1) := by decide +kernel
theorem dJ9_min_f86c9_0 : decode cJ9_min_f86c9 0 = .ok (.lload_n 0, 1) := by decide +kernel
theorem dJ9_min_f86c9_1 : decode cJ9_min_f86c9 1 = .ok (.lload_n 2, 1) := by decide +kernel
theorem dJ9_min_f86c9_2 : decode cJ9_min_f86c9 2 = .ok (.lcmp, 1) := by decide +kernel
theorem dJ9_min_f86c9_3 : decode cJ9_min_f86c9 3 = .ok (.ifCond .gt 7, 3) := by decide +kernel
theorem dJ9_min_f86c9_6 : decode cJ9_min_f86c9 6 = .ok (.lload_n 0, 1) := by decide +kernel
theorem dJ9_min_f86c9_7 : decode cJ9_min_f86c9 7 = .ok (.goto 4, 3) := by decide +kernel
theorem dJ9_min_f86c9_10 : decode cJ9_min_f86c9 10 = .ok (.lload_n 2, 1) := by decide +kernel
theorem dJ9_min_f86c9_11 : decode cJ9_min_f86c9 11 = .ok (.lreturn, 1) := by decide +kernel
theorem dL_law_0 : decode cL_law 0 = .ok (.new 7, 3) := by decide +kernel
theorem dL_law_3 : decode cL_law 3 = .ok (.dup, 1) := by decide +kernel
theorem dL_law_4 : decode cL_law 4 = .ok (.invokespecial 9, 3) := by decide +kernel
theorem dL_law_7 : decode cL_law 7 = .ok (.astore_n 1, 1) := by decide +kernel
theorem dL_law_8 : decode cL_law 8 = .ok (.new 10, 3) := by decide +kernel
theorem dL_law_11 : decode cL_law 11 = .ok (.dup, 1) := by decide +kernel
theorem dL_law_12 : decode cL_law 12 = .ok (.invokespecial 12, 3) := by decide +kernel
theorem dL_law_15 : decode cL_law 15 = .ok (.astore_n 2, 1) := by decide +kernel
theorem dL_law_16 : decode cL_law 16 = .ok (.iconst 0, 1) := by decide +kernel
theorem dL_law_17 : decode cL_law 17 = .ok (.istore_n 3, 1) := by decide +kernel
theorem dL_law_18 : decode cL_law 18 = .ok (.iload_n 3, 1) := by decide +kernel
theorem dL_law_19 : decode cL_law 19 = .ok (.aload_n 0, 1) := by decide +kernel
theorem dL_law_20 : decode cL_law 20 = .ok (.arraylength, 1) := by decide +kernel
theorem dL_law_21 : decode cL_law 21 = .ok (.bipush 7, 2) := by decide +kernel
theorem dL_law_23 : decode cL_law 23 = .ok (.isub, 1) := by decide +kernel
theorem dL_law_24 : decode cL_law 24 = .ok (.if_icmp .gt 1175, 3) := by decide +kernel
theorem dL_law_27 : decode cL_law 27 = .ok (.aload_n 0, 1) := by decide +kernel
theorem dL_law_28 : decode cL_law 28 = .ok (.iload_n 3, 1) := by decide +kernel
theorem dL_law_29 : decode cL_law 29 = .ok (.iaload, 1) := by decide +kernel
theorem dL_law_30 : decode cL_law 30 = .ok (.bipush 31, 2) := by decide +kernel
theorem dL_law_32 : decode cL_law 32 = .ok (.iand, 1) := by decide +kernel
theorem dL_law_33 : decode cL_law 33 = .ok (.tableswitch 1160 0 26 #[123, 146, 209, 252, 305, 338, 413, 466, 499, 522, 565, 598, 621, 654, 688, 731, 754, 787, 810, 843, 906, 949, 983, 1006, 1081, 1114, 1137], 123) := by decide +kernel
theorem dL_law_156 : decode cL_law 156 = .ok (.aload_n 1, 1) := by decide +kernel
theorem dL_law_157 : decode cL_law 157 = .ok (.aload_n 0, 1) := by decide +kernel
theorem dL_law_158 : decode cL_law 158 = .ok (.iload_n 3, 1) := by decide +kernel
theorem dL_law_159 : decode cL_law 159 = .ok (.iconst 1, 1) := by decide +kernel
theorem dL_law_160 : decode cL_law 160 = .ok (.iadd, 1) := by decide +kernel
theorem dL_law_161 : decode cL_law 161 = .ok (.iaload, 1) := by decide +kernel
theorem dL_law_162 : decode cL_law 162 = .ok (.invokevirtual 13, 3) := by decide +kernel
theorem dL_law_165 : decode cL_law 165 = .ok (.aload_n 2, 1) := by decide +kernel
theorem dL_law_166 : decode cL_law 166 = .ok (.aload_n 0, 1) := by decide +kernel
theorem dL_law_167 : decode cL_law 167 = .ok (.iload_n 3, 1) := by decide +kernel
theorem dL_law_168 : decode cL_law 168 = .ok (.iconst 1, 1) := by decide +kernel
theorem dL_law_169 : decode cL_law 169 = .ok (.iadd, 1) := by decide +kernel
theorem dL_law_170 : decode cL_law 170 = .ok (.iaload, 1) := by decide +kernel
theorem dL_law_171 : decode cL_law 171 = .ok (.invokevirtual 17, 3) := by decide +kernel
theorem dL_law_174 : decode cL_law 174 = .ok (.if_icmp .eq 1019, 3) := by decide +kernel
theorem dL_law_177 : decode cL_law 177 = .ok (.iconst 0, 1) := by decide +kernel
theorem dL_law_178 : decode cL_law 178 = .ok (.ireturn, 1) := by decide +kernel
theorem dL_law_179 : decode cL_law 179 = .ok (.aload_n 1, 1) := by decide +kernel
theorem dL_law_180 : decode cL_law 180 = .ok (.aload_n 0, 1) := by decide +kernel
theorem dL_law_181 : decode cL_law 181 = .ok (.iload_n 3, 1) := by decide +kernel
theorem dL_law_182 : decode cL_law 182 = .ok (.iconst 1, 1) := by decide +kernel
theorem dL_law_183 : decode cL_law 183 = .ok (.iadd, 1) := by decide +kernel
theorem dL_law_184 : decode cL_law 184 = .ok (.iaload, 1) := by decide +kernel
theorem dL_law_185 : decode cL_law 185 = .ok (.aload_n 0, 1) := by decide +kernel
theorem dL_law_186 : decode cL_law 186 = .ok (.iload_n 3, 1) := by decide +kernel
theorem dL_law_187 : decode cL_law 187 = .ok (.iconst 2, 1) := by decide +kernel
theorem dL_law_188 : decode cL_law 188 = .ok (.iadd, 1) := by decide +kernel
theorem dL_law_189 : decode cL_law 189 = .ok (.iaload, 1) := by decide +kernel
theorem dL_law_190 : decode cL_law 190 = .ok (.aload_n 0, 1) := by decide +kernel
theorem dL_law_191 : decode cL_law 191 = .ok (.iload_n 3, 1) := by decide +kernel
theorem dL_law_192 : decode cL_law 192 = .ok (.iconst 3, 1) := by decide +kernel
theorem dL_law_193 : decode cL_law 193 = .ok (.iadd, 1) := by decide +kernel
theorem dL_law_194 : decode cL_law 194 = .ok (.iaload, 1) := by decide +kernel
theorem dL_law_195 : decode cL_law 195 = .ok (.aload_n 0, 1) := by decide +kernel
theorem dL_law_196 : decode cL_law 196 = .ok (.iload_n 3, 1) := by decide +kernel
theorem dL_law_197 : decode cL_law 197 = .ok (.iconst 4, 1) := by decide +kernel
theorem dL_law_198 : decode cL_law 198 = .ok (.iadd, 1) := by decide +kernel
theorem dL_law_199 : decode cL_law 199 = .ok (.iaload, 1) := by decide +kernel
theorem dL_law_200 : decode cL_law 200 = .ok (.aload_n 0, 1) := by decide +kernel
theorem dL_law_201 : decode cL_law 201 = .ok (.iload_n 3, 1) := by decide +kernel
theorem dL_law_202 : decode cL_law 202 = .ok (.iconst 5, 1) := by decide +kernel
theorem dL_law_203 : decode cL_law 203 = .ok (.iadd, 1) := by decide +kernel
theorem dL_law_204 : decode cL_law 204 = .ok (.iaload, 1) := by decide +kernel
theorem dL_law_205 : decode cL_law 205 = .ok (.invokevirtual 18, 3) := by decide +kernel
theorem dL_law_208 : decode cL_law 208 = .ok (.aload_n 2, 1) := by decide +kernel
theorem dL_law_209 : decode cL_law 209 = .ok (.aload_n 0, 1) := by decide +kernel
theorem dL_law_210 : decode cL_law 210 = .ok (.iload_n 3, 1) := by decide +kernel
theorem dL_law_211 : decode cL_law 211 = .ok (.iconst 1, 1) := by decide +kernel
theorem dL_law_212 : decode cL_law 212 = .ok (.iadd, 1) := by decide +kernel
theorem dL_law_213 : decode cL_law 213 = .ok (.iaload, 1) := by decide +kernel
theorem dL_law_214 : decode cL_law 214 = .ok (.aload_n 0, 1) := by decide +kernel
theorem dL_law_215 : decode cL_law 215 = .ok (.iload_n 3, 1) := by decide +kernel
theorem dL_law_216 : decode cL_law 216 = .ok (.iconst 2, 1) := by decide +kernel
theorem dL_law_217 : decode cL_law 217 = .ok (.iadd, 1) := by decide +kernel
theorem dL_law_218 : decode cL_law 218 = .ok (.iaload, 1) := by decide +kernel
theorem dL_law_219 : decode cL_law 219 = .ok (.aload_n 0, 1) := by decide +kernel
theorem dL_law_220 : decode cL_law 220 = .ok (.iload_n 3, 1) := by decide +kernel
theorem dL_law_221 : decode cL_law 221 = .ok (.iconst 3, 1) := by decide +kernel
theorem dL_law_222 : decode cL_law 222 = .ok (.iadd, 1) := by decide +kernel
theorem dL_law_223 : decode cL_law 223 = .ok (.iaload, 1) := by decide +kernel
theorem dL_law_224 : decode cL_law 224 = .ok (.aload_n 0, 1) := by decide +kernel
theorem dL_law_225 : decode cL_law 225 = .ok (.iload_n 3, 1) := by decide +kernel
theorem dL_law_226 : decode cL_law 226 = .ok (.iconst 4, 1) := by decide +kernel
theorem dL_law_227 : decode cL_law 227 = .ok (.iadd, 1) := by decide +kernel
theorem dL_law_228 : decode cL_law 228 = .ok (.iaload, 1) := by decide +kernel
theorem dL_law_229 : decode cL_law 229 = .ok (.aload_n 0, 1) := by decide +kernel
theorem dL_law_230 : decode cL_law 230 = .ok (.iload_n 3, 1) := by decide +kernel
theorem dL_law_231 : decode cL_law 231 = .ok (.iconst 5, 1) := by decide +kernel
theorem dL_law_232 : decode cL_law 232 = .ok (.iadd, 1) := by decide +kernel
theorem dL_law_233 : decode cL_law 233 = .ok (.iaload, 1) := by decide +kernel
theorem dL_law_234 : decode cL_law 234 = .ok (.invokevirtual 22, 3) := by decide +kernel
theorem dL_law_237 : decode cL_law 237 = .ok (.if_icmp .eq 956, 3) := by decide +kernel
theorem dL_law_240 : decode cL_law 240 = .ok (.iconst 0, 1) := by decide +kernel
theorem dL_law_241 : decode cL_law 241 = .ok (.ireturn, 1) := by decide +kernel
theorem dL_law_242 : decode cL_law 242 = .ok (.aload_n 1, 1) := by decide +kernel
theorem dL_law_243 : decode cL_law 243 = .ok (.aload_n 0, 1) := by decide +kernel
theorem dL_law_244 : decode cL_law 244 = .ok (.iload_n 3, 1) := by decide +kernel
theorem dL_law_245 : decode cL_law 245 = .ok (.iconst 1, 1) := by decide +kernel
theorem dL_law_246 : decode cL_law 246 = .ok (.iadd, 1) := by decide +kernel
theorem dL_law_247 : decode cL_law 247 = .ok (.iaload, 1) := by decide +kernel
theorem dL_law_248 : decode cL_law 248 = .ok (.aload_n 0, 1) := by decide +kernel
theorem dL_law_249 : decode cL_law 249 = .ok (.iload_n 3, 1) := by decide +kernel
theorem dL_law_250 : decode cL_law 250 = .ok (.iconst 2, 1) := by decide +kernel
theorem dL_law_251 : decode cL_law 251 = .ok (.iadd, 1) := by decide +kernel
theorem dL_law_252 : decode cL_law 252 = .ok (.iaload, 1) := by decide +kernel
theorem dL_law_253 : decode cL_law 253 = .ok (.aload_n 0, 1) := by decide +kernel
theorem dL_law_254 : decode cL_law 254 = .ok (.iload_n 3, 1) := by decide +kernel
theorem dL_law_255 : decode cL_law 255 = .ok (.iconst 3, 1) := by decide +kernel
theorem dL_law_256 : decode cL_law 256 = .ok (.iadd, 1) := by decide +kernel
theorem dL_law_257 : decode cL_law 257 = .ok (.iaload, 1) := by decide +kernel
theorem dL_law_258 : decode cL_law 258 = .ok (.invokevirtual 23, 3) := by decide +kernel
theorem dL_law_261 : decode cL_law 261 = .ok (.aload_n 2, 1) := by decide +kernel
theorem dL_law_262 : decode cL_law 262 = .ok (.aload_n 0, 1) := by decide +kernel
theorem dL_law_263 : decode cL_law 263 = .ok (.iload_n 3, 1) := by decide +kernel
theorem dL_law_264 : decode cL_law 264 = .ok (.iconst 1, 1) := by decide +kernel
theorem dL_law_265 : decode cL_law 265 = .ok (.iadd, 1) := by decide +kernel
theorem dL_law_266 : decode cL_law 266 = .ok (.iaload, 1) := by decide +kernel
theorem dL_law_267 : decode cL_law 267 = .ok (.aload_n 0, 1) := by decide +kernel
theorem dL_law_268 : decode cL_law 268 = .ok (.iload_n 3, 1) := by decide +kernel
theorem dL_law_269 : decode cL_law 269 = .ok (.iconst 2, 1) := by decide +kernel
theorem dL_law_270 : decode cL_law 270 = .ok (.iadd, 1) := by decide +kernel
theorem dL_law_271 : decode cL_law 271 = .ok (.iaload, 1) := by decide +kernel
theorem dL_law_272 : decode cL_law 272 = .ok (.aload_n 0, 1) := by decide +kernel
theorem dL_law_273 : decode cL_law 273 = .ok (.iload_n 3, 1) := by decide +kernel
theorem dL_law_274 : decode cL_law 274 = .ok (.iconst 3, 1) := by decide +kernel
theorem dL_law_275 : decode cL_law 275 = .ok (.iadd, 1) := by decide +kernel
theorem dL_law_276 : decode cL_law 276 = .ok (.iaload, 1) := by decide +kernel
theorem dL_law_277 : decode cL_law 277 = .ok (.invokevirtual 27, 3) := by decide +kernel
theorem dL_law_280 : decode cL_law 280 = .ok (.if_icmp .eq 913, 3) := by decide +kernel
theorem dL_law_283 : decode cL_law 283 = .ok (.iconst 0, 1) := by decide +kernel
theorem dL_law_284 : decode cL_law 284 = .ok (.ireturn, 1) := by decide +kernel
theorem dL_law_285 : decode cL_law 285 = .ok (.aload_n 1, 1) := by decide +kernel
theorem dL_law_286 : decode cL_law 286 = .ok (.aload_n 0, 1) := by decide +kernel
theorem dL_law_287 : decode cL_law 287 = .ok (.iload_n 3, 1) := by decide +kernel
theorem dL_law_288 : decode cL_law 288 = .ok (.iconst 1, 1) := by decide +kernel
theorem dL_law_289 : decode cL_law 289 = .ok (.iadd, 1) := by decide +kernel
theorem dL_law_290 : decode cL_law 290 = .ok (.iaload, 1) := by decide +kernel
theorem dL_law_291 : decode cL_law 291 = .ok (.aload_n 0, 1) := by decide +kernel
theorem dL_law_292 : decode cL_law 292 = .ok (.iload_n 3, 1) := by decide +kernel
theorem dL_law_293 : decode cL_law 293 = .ok (.iconst 2, 1) := by decide +kernel
theorem dL_law_294 : decode cL_law 294 = .ok (.iadd, 1) := by decide +kernel
theorem dL_law_295 : decode cL_law 295 = .ok (.iaload, 1) := by decide +kernel
theorem dL_law_296 : decode cL_law 296 = .ok (.aload_n 0, 1) := by decide +kernel
theorem dL_law_297 : decode cL_law 297 = .ok (.iload_n 3, 1) := by decide +kernel
theorem dL_law_298 : decode cL_law 298 = .ok (.iconst 3, 1) := by decide +kernel
theorem dL_law_299 : decode cL_law 299 = .ok (.iadd, 1) := by decide +kernel
theorem dL_law_300 : decode cL_law 300 = .ok (.iaload, 1) := by decide +kernel
theorem dL_law_301 : decode cL_law 301 = .ok (.aload_n 0, 1) := by decide +kernel
theorem dL_law_302 : decode cL_law 302 = .ok (.iload_n 3, 1) := by decide +kernel
theorem dL_law_303 : decode cL_law 303 = .ok (.iconst 4, 1) := by decide +kernel
theorem dL_law_304 : decode cL_law 304 = .ok (.iadd, 1) := by decide +kernel
theorem dL_law_305 : decode cL_law 305 = .ok (.iaload, 1) := by decide +kernel
theorem dL_law_306 : decode cL_law 306 = .ok (.invokevirtual 28, 3) := by decide +kernel
theorem dL_law_309 : decode cL_law 309 = .ok (.aload_n 2, 1) := by decide +kernel
theorem dL_law_310 : decode cL_law 310 = .ok (.aload_n 0, 1) := by decide +kernel
theorem dL_law_311 : decode cL_law 311 = .ok (.iload_n 3, 1) := by decide +kernel
theorem dL_law_312 : decode cL_law 312 = .ok (.iconst 1, 1) := by decide +kernel
theorem dL_law_313 : decode cL_law 313 = .ok (.iadd, 1) := by decide +kernel
theorem dL_law_314 : decode cL_law 314 = .ok (.iaload, 1) := by decide +kernel
theorem dL_law_315 : decode cL_law 315 = .ok (.aload_n 0, 1) := by decide +kernel
theorem dL_law_316 : decode cL_law 316 = .ok (.iload_n 3, 1) := by decide +kernel
theorem dL_law_317 : decode cL_law 317 = .ok (.iconst 2, 1) := by decide +kernel
theorem dL_law_318 : decode cL_law 318 = .ok (.iadd, 1) := by decide +kernel
theorem dL_law_319 : decode cL_law 319 = .ok (.iaload, 1) := by decide +kernel
theorem dL_law_320 : decode cL_law 320 = .ok (.aload_n 0, 1) := by decide +kernel
theorem dL_law_321 : decode cL_law 321 = .ok (.iload_n 3, 1) := by decide +kernel
theorem dL_law_322 : decode cL_law 322 = .ok (.iconst 3, 1) := by decide +kernel
theorem dL_law_323 : decode cL_law 323 = .ok (.iadd, 1) := by decide +kernel
theorem dL_law_324 : decode cL_law 324 = .ok (.iaload, 1) := by decide +kernel
theorem dL_law_325 : decode cL_law 325 = .ok (.aload_n 0, 1) := by decide +kernel
theorem dL_law_326 : decode cL_law 326 = .ok (.iload_n 3, 1) := by decide +kernel
theorem dL_law_327 : decode cL_law 327 = .ok (.iconst 4, 1) := by decide +kernel
theorem dL_law_328 : decode cL_law 328 = .ok (.iadd, 1) := by decide +kernel
theorem dL_law_329 : decode cL_law 329 = .ok (.iaload, 1) := by decide +kernel
theorem dL_law_330 : decode cL_law 330 = .ok (.invokevirtual 32, 3) := by decide +kernel
theorem dL_law_333 : decode cL_law 333 = .ok (.if_icmp .eq 860, 3) := by decide +kernel
theorem dL_law_336 : decode cL_law 336 = .ok (.iconst 0, 1) := by decide +kernel
theorem dL_law_337 : decode cL_law 337 = .ok (.ireturn, 1) := by decide +kernel
theorem dL_law_338 : decode cL_law 338 = .ok (.aload_n 1, 1) := by decide +kernel
theorem dL_law_339 : decode cL_law 339 = .ok (.aload_n 0, 1) := by decide +kernel
theorem dL_law_340 : decode cL_law 340 = .ok (.iload_n 3, 1) := by decide +kernel
theorem dL_law_341 : decode cL_law 341 = .ok (.iconst 1, 1) := by decide +kernel
theorem dL_law_342 : decode cL_law 342 = .ok (.iadd, 1) := by decide +kernel
theorem dL_law_343 : decode cL_law 343 = .ok (.iaload, 1) := by decide +kernel
theorem dL_law_344 : decode cL_law 344 = .ok (.aload_n 0, 1) := by decide +kernel
theorem dL_law_345 : decode cL_law 345 = .ok (.iload_n 3, 1) := by decide +kernel
theorem dL_law_346 : decode cL_law 346 = .ok (.iconst 2, 1) := by decide +kernel
theorem dL_law_347 : decode cL_law 347 = .ok (.iadd, 1) := by decide +kernel
theorem dL_law_348 : decode cL_law 348 = .ok (.iaload, 1) := by decide +kernel
theorem dL_law_349 : decode cL_law 349 = .ok (.invokevirtual 33, 3) := by decide +kernel
theorem dL_law_352 : decode cL_law 352 = .ok (.aload_n 2, 1) := by decide +kernel
theorem dL_law_353 : decode cL_law 353 = .ok (.aload_n 0, 1) := by decide +kernel
theorem dL_law_354 : decode cL_law 354 = .ok (.iload_n 3, 1) := by decide +kernel
theorem dL_law_355 : decode cL_law 355 = .ok (.iconst 1, 1) := by decide +kernel
theorem dL_law_356 : decode cL_law 356 = .ok (.iadd, 1) := by decide +kernel
theorem dL_law_357 : decode cL_law 357 = .ok (.iaload, 1) := by decide +kernel
theorem dL_law_358 : decode cL_law 358 = .ok (.aload_n 0, 1) := by decide +kernel
theorem dL_law_359 : decode cL_law 359 = .ok (.iload_n 3, 1) := by decide +kernel
theorem dL_law_360 : decode cL_law 360 = .ok (.iconst 2, 1) := by decide +kernel
theorem dL_law_361 : decode cL_law 361 = .ok (.iadd, 1) := by decide +kernel
theorem dL_law_362 : decode cL_law 362 = .ok (.iaload, 1) := by decide +kernel
theorem dL_law_363 : decode cL_law 363 = .ok (.invokevirtual 37, 3) := by decide +kernel
theorem dL_law_366 : decode cL_law 366 = .ok (.if_icmp .eq 827, 3) := by decide +kernel
theorem dL_law_369 : decode cL_law 369 = .ok (.iconst 0, 1) := by decide +kernel
theorem dL_law_370 : decode cL_law 370 = .ok (.ireturn, 1) := by decide +kernel
theorem dL_law_371 : decode cL_law 371 = .ok (.aload_n 1, 1) := by decide +kernel
theorem dL_law_372 : decode cL_law 372 = .ok (.aload_n 0, 1) := by decide +kernel
theorem dL_law_373 : decode cL_law 373 = .ok (.iload_n 3, 1) := by decide +kernel
theorem dL_law_374 : decode cL_law 374 = .ok (.iconst 1, 1) := by decide +kernel
theorem dL_law_375 : decode cL_law 375 = .ok (.iadd, 1) := by decide +kernel
theorem dL_law_376 : decode cL_law 376 = .ok (.iaload, 1) := by decide +kernel
theorem dL_law_377 : decode cL_law 377 = .ok (.aload_n 0, 1) := by decide +kernel
theorem dL_law_378 : decode cL_law 378 = .ok (.iload_n 3, 1) := by decide +kernel
theorem dL_law_379 : decode cL_law 379 = .ok (.iconst 2, 1) := by decide +kernel
theorem dL_law_380 : decode cL_law 380 = .ok (.iadd, 1) := by decide +kernel
theorem dL_law_381 : decode cL_law 381 = .ok (.iaload, 1) := by decide +kernel
theorem dL_law_382 : decode cL_law 382 = .ok (.aload_n 0, 1) := by decide +kernel
theorem dL_law_383 : decode cL_law 383 = .ok (.iload_n 3, 1) := by decide +kernel
theorem dL_law_384 : decode cL_law 384 = .ok (.iconst 3, 1) := by decide +kernel
theorem dL_law_385 : decode cL_law 385 = .ok (.iadd, 1) := by decide +kernel
theorem dL_law_386 : decode cL_law 386 = .ok (.iaload, 1) := by decide +kernel
theorem dL_law_387 : decode cL_law 387 = .ok (.aload_n 0, 1) := by decide +kernel
theorem dL_law_388 : decode cL_law 388 = .ok (.iload_n 3, 1) := by decide +kernel
theorem dL_law_389 : decode cL_law 389 = .ok (.iconst 4, 1) := by decide +kernel
theorem dL_law_390 : decode cL_law 390 = .ok (.iadd, 1) := by decide +kernel
theorem dL_law_391 : decode cL_law 391 = .ok (.iaload, 1) := by decide +kernel
theorem dL_law_392 : decode cL_law 392 = .ok (.aload_n 0, 1) := by decide +kernel
theorem dL_law_393 : decode cL_law 393 = .ok (.iload_n 3, 1) := by decide +kernel
theorem dL_law_394 : decode cL_law 394 = .ok (.iconst 5, 1) := by decide +kernel
theorem dL_law_395 : decode cL_law 395 = .ok (.iadd, 1) := by decide +kernel
theorem dL_law_396 : decode cL_law 396 = .ok (.iaload, 1) := by decide +kernel
theorem dL_law_397 : decode cL_law 397 = .ok (.aload_n 0, 1) := by decide +kernel
theorem dL_law_398 : decode cL_law 398 = .ok (.iload_n 3, 1) := by decide +kernel
theorem dL_law_399 : decode cL_law 399 = .ok (.bipush 6, 2) := by decide +kernel
theorem dL_law_401 : decode cL_law 401 = .ok (.iadd, 1) := by decide +kernel
theorem dL_law_402 : decode cL_law 402 = .ok (.iaload, 1) := by decide +kernel
theorem dL_law_403 : decode cL_law 403 = .ok (.invokevirtual 38, 3) := by decide +kernel
theorem dL_law_406 : decode cL_law 406 = .ok (.aload_n 2, 1) := by decide +kernel
theorem dL_law_407 : decode cL_law 407 = .ok (.aload_n 0, 1) := by decide +kernel
theorem dL_law_408 : decode cL_law 408 = .ok (.iload_n 3, 1) := by decide +kernel
theorem dL_law_409 : decode cL_law 409 = .ok (.iconst 1, 1) := by decide +kernel
theorem dL_law_410 : decode cL_law 410 = .ok (.iadd, 1) := by decide +kernel
theorem dL_law_411 : decode cL_law 411 = .ok (.iaload, 1) := by decide +kernel
theorem dL_law_412 : decode cL_law 412 = .ok (.aload_n 0, 1) := by decide +kernel
theorem dL_law_413 : decode cL_law 413 = .ok (.iload_n 3, 1) := by decide +kernel
theorem dL_law_414 : decode cL_law 414 = .ok (.iconst 2, 1) := by decide +kernel
theorem dL_law_415 : decode cL_law 415 = .ok (.iadd, 1) := by decide +kernel
theorem dL_law_416 : decode cL_law 416 = .ok (.iaload, 1) := by decide +kernel
theorem dL_law_417 : decode cL_law 417 = .ok (.aload_n 0, 1) := by decide +kernel
theorem dL_law_418 : decode cL_law 418 = .ok (.iload_n 3, 1) := by decide +kernel
theorem dL_law_419 : decode cL_law 419 = .ok (.iconst 3, 1) := by decide +kernel
theorem dL_law_420 : decode cL_law 420 = .ok (.iadd, 1) := by decide +kernel
theorem dL_law_421 : decode cL_law 421 = .ok (.iaload, 1) := by decide +kernel
theorem dL_law_422 : decode cL_law 422 = .ok (.aload_n 0, 1) := by decide +kernel
theorem dL_law_423 : decode cL_law 423 = .ok (.iload_n 3, 1) := by decide +kernel
theorem dL_law_424 : decode cL_law 424 = .ok (.iconst 4, 1) := by decide +kernel
theorem dL_law_425 : decode cL_law 425 = .ok (.iadd, 1) := by decide +kernel
theorem dL_law_426 : decode cL_law 426 = .ok (.iaload, 1) := by decide +kernel
theorem dL_law_427 : decode cL_law 427 = .ok (.aload_n 0, 1) := by decide +kernel
theorem dL_law_428 : decode cL_law 428 = .ok (.iload_n 3, 1) := by decide +kernel
theorem dL_law_429 : decode cL_law 429 = .ok (.iconst 5, 1) := by decide +kernel
theorem dL_law_430 : decode cL_law 430 = .ok (.iadd, 1) := by decide +kernel
theorem dL_law_431 : decode cL_law 431 = .ok (.iaload, 1) := by decide +kernel
theorem dL_law_432 : decode cL_law 432 = .ok (.aload_n 0, 1) := by decide +kernel
theorem dL_law_433 : decode cL_law 433 = .ok (.iload_n 3, 1) := by decide +kernel
theorem dL_law_434 : decode cL_law 434 = .ok (.bipush 6, 2) := by decide +kernel
theorem dL_law_436 : decode cL_law 436 = .ok (.iadd, 1) := by decide +kernel
theorem dL_law_437 : decode cL_law 437 = .ok (.iaload, 1) := by decide +kernel
theorem dL_law_438 : decode cL_law 438 = .ok (.invokevirtual 42, 3) := by decide +kernel
theorem dL_law_441 : decode cL_law 441 = .ok (.if_icmp .eq 752, 3) := by decide +kernel
theorem dL_law_444 : decode cL_law 444 = .ok (.iconst 0, 1) := by decide +kernel
theorem dL_law_445 : decode cL_law 445 = .ok (.ireturn, 1) := by decide +kernel
theorem dL_law_446 : decode cL_law 446 = .ok (.aload_n 1, 1) := by decide +kernel
theorem dL_law_447 : decode cL_law 447 = .ok (.aload_n 0, 1) := by decide +kernel
theorem dL_law_448 : decode cL_law 448 = .ok (.iload_n 3, 1) := by decide +kernel
theorem dL_law_449 : decode cL_law 449 = .ok (.iconst 1, 1) := by decide +kernel
theorem dL_law_450 : decode cL_law 450 = .ok (.iadd, 1) := by decide +kernel
theorem dL_law_451 : decode cL_law 451 = .ok (.iaload, 1) := by decide +kernel
theorem dL_law_452 : decode cL_law 452 = .ok (.aload_n 0, 1) := by decide +kernel
theorem dL_law_453 : decode cL_law 453 = .ok (.iload_n 3, 1) := by decide +kernel
theorem dL_law_454 : decode cL_law 454 = .ok (.iconst 2, 1) := by decide +kernel
theorem dL_law_455 : decode cL_law 455 = .ok (.iadd, 1) := by decide +kernel
theorem dL_law_456 : decode cL_law 456 = .ok (.iaload, 1) := by decide +kernel
theorem dL_law_457 : decode cL_law 457 = .ok (.aload_n 0, 1) := by decide +kernel
theorem dL_law_458 : decode cL_law 458 = .ok (.iload_n 3, 1) := by decide +kernel
theorem dL_law_459 : decode cL_law 459 = .ok (.iconst 3, 1) := by decide +kernel
theorem dL_law_460 : decode cL_law 460 = .ok (.iadd, 1) := by decide +kernel
theorem dL_law_461 : decode cL_law 461 = .ok (.iaload, 1) := by decide +kernel
theorem dL_law_462 : decode cL_law 462 = .ok (.aload_n 0, 1) := by decide +kernel
theorem dL_law_463 : decode cL_law 463 = .ok (.iload_n 3, 1) := by decide +kernel
theorem dL_law_464 : decode cL_law 464 = .ok (.iconst 4, 1) := by decide +kernel
theorem dL_law_465 : decode cL_law 465 = .ok (.iadd, 1) := by decide +kernel
theorem dL_law_466 : decode cL_law 466 = .ok (.iaload, 1) := by decide +kernel
theorem dL_law_467 : decode cL_law 467 = .ok (.invokevirtual 43, 3) := by decide +kernel
theorem dL_law_470 : decode cL_law 470 = .ok (.aload_n 2, 1) := by decide +kernel
theorem dL_law_471 : decode cL_law 471 = .ok (.aload_n 0, 1) := by decide +kernel
theorem dL_law_472 : decode cL_law 472 = .ok (.iload_n 3, 1) := by decide +kernel
theorem dL_law_473 : decode cL_law 473 = .ok (.iconst 1, 1) := by decide +kernel
theorem dL_law_474 : decode cL_law 474 = .ok (.iadd, 1) := by decide +kernel
theorem dL_law_475 : decode cL_law 475 = .ok (.iaload, 1) := by decide +kernel
theorem dL_law_476 : decode cL_law 476 = .ok (.aload_n 0, 1) := by decide +kernel
theorem dL_law_477 : decode cL_law 477 = .ok (.iload_n 3, 1) := by decide +kernel
theorem dL_law_478 : decode cL_law 478 = .ok (.iconst 2, 1) := by decide +kernel
theorem dL_law_479 : decode cL_law 479 = .ok (.iadd, 1) := by decide +kernel
theorem dL_law_480 : decode cL_law 480 = .ok (.iaload, 1) := by decide +kernel
theorem dL_law_481 : decode cL_law 481 = .ok (.aload_n 0, 1) := by decide +kernel
theorem dL_law_482 : decode cL_law 482 = .ok (.iload_n 3, 1) := by decide +kernel
theorem dL_law_483 : decode cL_law 483 = .ok (.iconst 3, 1) := by decide +kernel
theorem dL_law_484 : decode cL_law 484 = .ok (.iadd, 1) := by decide +kernel
theorem dL_law_485 : decode cL_law 485 = .ok (.iaload, 1) := by decide +kernel
theorem dL_law_486 : decode cL_law 486 = .ok (.aload_n 0, 1) := by decide +kernel
theorem dL_law_487 : decode cL_law 487 = .ok (.iload_n 3, 1) := by decide +kernel
theorem dL_law_488 : decode cL_law 488 = .ok (.iconst 4, 1) := by decide +kernel
theorem dL_law_489 : decode cL_law 489 = .ok (.iadd, 1) := by decide +kernel
theorem dL_law_490 : decode cL_law 490 = .ok (.iaload, 1) := by decide +kernel
theorem dL_law_491 : decode cL_law 491 = .ok (.invokevirtual 46, 3) := by decide +kernel
theorem dL_law_494 : decode cL_law 494 = .ok (.if_icmp .eq 699, 3) := by decide +kernel
theorem dL_law_497 : decode cL_law 497 = .ok (.iconst 0, 1) := by decide +kernel
theorem dL_law_498 : decode cL_law 498 = .ok (.ireturn, 1) := by decide +kernel
theorem dL_law_499 : decode cL_law 499 = .ok (.aload_n 1, 1) := by decide +kernel
theorem dL_law_500 : decode cL_law 500 = .ok (.aload_n 0, 1) := by decide +kernel
theorem dL_law_501 : decode cL_law 501 = .ok (.iload_n 3, 1) := by decide +kernel
theorem dL_law_502 : decode cL_law 502 = .ok (.iconst 1, 1) := by decide +kernel
theorem dL_law_503 : decode cL_law 503 = .ok (.iadd, 1) := by decide +kernel
theorem dL_law_504 : decode cL_law 504 = .ok (.iaload, 1) := by decide +kernel
theorem dL_law_505 : decode cL_law 505 = .ok (.aload_n 0, 1) := by decide +kernel
theorem dL_law_506 : decode cL_law 506 = .ok (.iload_n 3, 1) := by decide +kernel
theorem dL_law_507 : decode cL_law 507 = .ok (.iconst 2, 1) := by decide +kernel
theorem dL_law_508 : decode cL_law 508 = .ok (.iadd, 1) := by decide +kernel
theorem dL_law_509 : decode cL_law 509 = .ok (.iaload, 1) := by decide +kernel
theorem dL_law_510 : decode cL_law 510 = .ok (.invokevirtual 47, 3) := by decide +kernel
theorem dL_law_513 : decode cL_law 513 = .ok (.aload_n 2, 1) := by decide +kernel
theorem dL_law_514 : decode cL_law 514 = .ok (.aload_n 0, 1) := by decide +kernel
theorem dL_law_515 : decode cL_law 515 = .ok (.iload_n 3, 1) := by decide +kernel
theorem dL_law_516 : decode cL_law 516 = .ok (.iconst 1, 1) := by decide +kernel
theorem dL_law_517 : decode cL_law 517 = .ok (.iadd, 1) := by decide +kernel
theorem dL_law_518 : decode cL_law 518 = .ok (.iaload, 1) := by decide +kernel
theorem dL_law_519 : decode cL_law 519 = .ok (.aload_n 0, 1) := by decide +kernel
theorem dL_law_520 : decode cL_law 520 = .ok (.iload_n 3, 1) := by decide +kernel
theorem dL_law_521 : decode cL_law 521 = .ok (.iconst 2, 1) := by decide +kernel
theorem dL_law_522 : decode cL_law 522 = .ok (.iadd, 1) := by decide +kernel
theorem dL_law_523 : decode cL_law 523 = .ok (.iaload, 1) := by decide +kernel
theorem dL_law_524 : decode cL_law 524 = .ok (.invokevirtual 50, 3) := by decide +kernel
theorem dL_law_527 : decode cL_law 527 = .ok (.if_icmp .eq 666, 3) := by decide +kernel
theorem dL_law_530 : decode cL_law 530 = .ok (.iconst 0, 1) := by decide +kernel
theorem dL_law_531 : decode cL_law 531 = .ok (.ireturn, 1) := by decide +kernel
theorem dL_law_532 : decode cL_law 532 = .ok (.aload_n 1, 1) := by decide +kernel
theorem dL_law_533 : decode cL_law 533 = .ok (.aload_n 0, 1) := by decide +kernel
theorem dL_law_534 : decode cL_law 534 = .ok (.iload_n 3, 1) := by decide +kernel
theorem dL_law_535 : decode cL_law 535 = .ok (.iconst 1, 1) := by decide +kernel
theorem dL_law_536 : decode cL_law 536 = .ok (.iadd, 1) := by decide +kernel
theorem dL_law_537 : decode cL_law 537 = .ok (.iaload, 1) := by decide +kernel
theorem dL_law_538 : decode cL_law 538 = .ok (.invokevirtual 51, 3) := by decide +kernel
theorem dL_law_541 : decode cL_law 541 = .ok (.aload_n 2, 1) := by decide +kernel
theorem dL_law_542 : decode cL_law 542 = .ok (.aload_n 0, 1) := by decide +kernel
theorem dL_law_543 : decode cL_law 543 = .ok (.iload_n 3, 1) := by decide +kernel
theorem dL_law_544 : decode cL_law 544 = .ok (.iconst 1, 1) := by decide +kernel
theorem dL_law_545 : decode cL_law 545 = .ok (.iadd, 1) := by decide +kernel
theorem dL_law_546 : decode cL_law 546 = .ok (.iaload, 1) := by decide +kernel
theorem dL_law_547 : decode cL_law 547 = .ok (.invokevirtual 54, 3) := by decide +kernel
theorem dL_law_550 : decode cL_law 550 = .ok (.if_icmp .eq 643, 3) := by decide +kernel
theorem dL_law_553 : decode cL_law 553 = .ok (.iconst 0, 1) := by decide +kernel
theorem dL_law_554 : decode cL_law 554 = .ok (.ireturn, 1) := by decide +kernel
theorem dL_law_555 : decode cL_law 555 = .ok (.aload_n 1, 1) := by decide +kernel
theorem dL_law_556 : decode cL_law 556 = .ok (.aload_n 0, 1) := by decide +kernel
theorem dL_law_557 : decode cL_law 557 = .ok (.iload_n 3, 1) := by decide +kernel
theorem dL_law_558 : decode cL_law 558 = .ok (.iconst 1, 1) := by decide +kernel
theorem dL_law_559 : decode cL_law 559 = .ok (.iadd, 1) := by decide +kernel
theorem dL_law_560 : decode cL_law 560 = .ok (.iaload, 1) := by decide +kernel
theorem dL_law_561 : decode cL_law 561 = .ok (.aload_n 0, 1) := by decide +kernel
theorem dL_law_562 : decode cL_law 562 = .ok (.iload_n 3, 1) := by decide +kernel
theorem dL_law_563 : decode cL_law 563 = .ok (.iconst 2, 1) := by decide +kernel
theorem dL_law_564 : decode cL_law 564 = .ok (.iadd, 1) := by decide +kernel
theorem dL_law_565 : decode cL_law 565 = .ok (.iaload, 1) := by decide +kernel
theorem dL_law_566 : decode cL_law 566 = .ok (.aload_n 0, 1) := by decide +kernel
theorem dL_law_567 : decode cL_law 567 = .ok (.iload_n 3, 1) := by decide +kernel
theorem dL_law_568 : decode cL_law 568 = .ok (.iconst 3, 1) := by decide +kernel
theorem dL_law_569 : decode cL_law 569 = .ok (.iadd, 1) := by decide +kernel
theorem dL_law_570 : decode cL_law 570 = .ok (.iaload, 1) := by decide +kernel
theorem dL_law_571 : decode cL_law 571 = .ok (.invokevirtual 55, 3) := by decide +kernel
theorem dL_law_574 : decode cL_law 574 = .ok (.aload_n 2, 1) := by decide +kernel
theorem dL_law_575 : decode cL_law 575 = .ok (.aload_n 0, 1) := by decide +kernel
theorem dL_law_576 : decode cL_law 576 = .ok (.iload_n 3, 1) := by decide +kernel
theorem dL_law_577 : decode cL_law 577 = .ok (.iconst 1, 1) := by decide +kernel
theorem dL_law_578 : decode cL_law 578 = .ok (.iadd, 1) := by decide +kernel
theorem dL_law_579 : decode cL_law 579 = .ok (.iaload, 1) := by decide +kernel
theorem dL_law_580 : decode cL_law 580 = .ok (.aload_n 0, 1) := by decide +kernel
theorem dL_law_581 : decode cL_law 581 = .ok (.iload_n 3, 1) := by decide +kernel
theorem dL_law_582 : decode cL_law 582 = .ok (.iconst 2, 1) := by decide +kernel
theorem dL_law_583 : decode cL_law 583 = .ok (.iadd, 1) := by decide +kernel
theorem dL_law_584 : decode cL_law 584 = .ok (.iaload, 1) := by decide +kernel
theorem dL_law_585 : decode cL_law 585 = .ok (.aload_n 0, 1) := by decide +kernel
theorem dL_law_586 : decode cL_law 586 = .ok (.iload_n 3, 1) := by decide +kernel
theorem dL_law_587 : decode cL_law 587 = .ok (.iconst 3, 1) := by decide +kernel
theorem dL_law_588 : decode cL_law 588 = .ok (.iadd, 1) := by decide +kernel
theorem dL_law_589 : decode cL_law 589 = .ok (.iaload, 1) := by decide +kernel
theorem dL_law_590 : decode cL_law 590 = .ok (.invokevirtual 58, 3) := by decide +kernel
theorem dL_law_593 : decode cL_law 593 = .ok (.if_icmp .eq 600, 3) := by decide +kernel
theorem dL_law_596 : decode cL_law 596 = .ok (.iconst 0, 1) := by decide +kernel
theorem dL_law_597 : decode cL_law 597 = .ok (.ireturn, 1) := by decide +kernel
theorem dL_law_598 : decode cL_law 598 = .ok (.aload_n 1, 1) := by decide +kernel
theorem dL_law_599 : decode cL_law 599 = .ok (.aload_n 0, 1) := by decide +kernel
theorem dL_law_600 : decode cL_law 600 = .ok (.iload_n 3, 1) := by decide +kernel
theorem dL_law_601 : decode cL_law 601 = .ok (.iconst 1, 1) := by decide +kernel
theorem dL_law_602 : decode cL_law 602 = .ok (.iadd, 1) := by decide +kernel
theorem dL_law_603 : decode cL_law 603 = .ok (.iaload, 1) := by decide +kernel
theorem dL_law_604 : decode cL_law 604 = .ok (.aload_n 0, 1) := by decide +kernel
theorem dL_law_605 : decode cL_law 605 = .ok (.iload_n 3, 1) := by decide +kernel
theorem dL_law_606 : decode cL_law 606 = .ok (.iconst 2, 1) := by decide +kernel
theorem dL_law_607 : decode cL_law 607 = .ok (.iadd, 1) := by decide +kernel
theorem dL_law_608 : decode cL_law 608 = .ok (.iaload, 1) := by decide +kernel
theorem dL_law_609 : decode cL_law 609 = .ok (.invokevirtual 59, 3) := by decide +kernel
theorem dL_law_612 : decode cL_law 612 = .ok (.aload_n 2, 1) := by decide +kernel
theorem dL_law_613 : decode cL_law 613 = .ok (.aload_n 0, 1) := by decide +kernel
theorem dL_law_614 : decode cL_law 614 = .ok (.iload_n 3, 1) := by decide +kernel
theorem dL_law_615 : decode cL_law 615 = .ok (.iconst 1, 1) := by decide +kernel
theorem dL_law_616 : decode cL_law 616 = .ok (.iadd, 1) := by decide +kernel
theorem dL_law_617 : decode cL_law 617 = .ok (.iaload, 1) := by decide +kernel
theorem dL_law_618 : decode cL_law 618 = .ok (.aload_n 0, 1) := by decide +kernel
theorem dL_law_619 : decode cL_law 619 = .ok (.iload_n 3, 1) := by decide +kernel
theorem dL_law_620 : decode cL_law 620 = .ok (.iconst 2, 1) := by decide +kernel
theorem dL_law_621 : decode cL_law 621 = .ok (.iadd, 1) := by decide +kernel
theorem dL_law_622 : decode cL_law 622 = .ok (.iaload, 1) := by decide +kernel
theorem dL_law_623 : decode cL_law 623 = .ok (.invokevirtual 62, 3) := by decide +kernel
theorem dL_law_626 : decode cL_law 626 = .ok (.if_icmp .eq 567, 3) := by decide +kernel
theorem dL_law_629 : decode cL_law 629 = .ok (.iconst 0, 1) := by decide +kernel
theorem dL_law_630 : decode cL_law 630 = .ok (.ireturn, 1) := by decide +kernel
theorem dL_law_631 : decode cL_law 631 = .ok (.aload_n 1, 1) := by decide +kernel
theorem dL_law_632 : decode cL_law 632 = .ok (.aload_n 0, 1) := by decide +kernel
theorem dL_law_633 : decode cL_law 633 = .ok (.iload_n 3, 1) := by decide +kernel
theorem dL_law_634 : decode cL_law 634 = .ok (.iconst 1, 1) := by decide +kernel
theorem dL_law_635 : decode cL_law 635 = .ok (.iadd, 1) := by decide +kernel
theorem dL_law_636 : decode cL_law 636 = .ok (.iaload, 1) := by decide +kernel
theorem dL_law_637 : decode cL_law 637 = .ok (.invokevirtual 63, 3) := by decide +kernel
theorem dL_law_640 : decode cL_law 640 = .ok (.aload_n 2, 1) := by decide +kernel
theorem dL_law_641 : decode cL_law 641 = .ok (.aload_n 0, 1) := by decide +kernel
theorem dL_law_642 : decode cL_law 642 = .ok (.iload_n 3, 1) := by decide +kernel
theorem dL_law_643 : decode cL_law 643 = .ok (.iconst 1, 1) := by decide +kernel
theorem dL_law_644 : decode cL_law 644 = .ok (.iadd, 1) := by decide +kernel
theorem dL_law_645 : decode cL_law 645 = .ok (.iaload, 1) := by decide +kernel
theorem dL_law_646 : decode cL_law 646 = .ok (.invokevirtual 66, 3) := by decide +kernel
theorem dL_law_649 : decode cL_law 649 = .ok (.if_icmp .eq 544, 3) := by decide +kernel
theorem dL_law_652 : decode cL_law 652 = .ok (.iconst 0, 1) := by decide +kernel
theorem dL_law_653 : decode cL_law 653 = .ok (.ireturn, 1) := by decide +kernel
theorem dL_law_654 : decode cL_law 654 = .ok (.aload_n 1, 1) := by decide +kernel
theorem dL_law_655 : decode cL_law 655 = .ok (.aload_n 0, 1) := by decide +kernel
theorem dL_law_656 : decode cL_law 656 = .ok (.iload_n 3, 1) := by decide +kernel
theorem dL_law_657 : decode cL_law 657 = .ok (.iconst 1, 1) := by decide +kernel
theorem dL_law_658 : decode cL_law 658 = .ok (.iadd, 1) := by decide +kernel
theorem dL_law_659 : decode cL_law 659 = .ok (.iaload, 1) := by decide +kernel
theorem dL_law_660 : decode cL_law 660 = .ok (.aload_n 0, 1) := by decide +kernel
theorem dL_law_661 : decode cL_law 661 = .ok (.iload_n 3, 1) := by decide +kernel
theorem dL_law_662 : decode cL_law 662 = .ok (.iconst 2, 1) := by decide +kernel
theorem dL_law_663 : decode cL_law 663 = .ok (.iadd, 1) := by decide +kernel
theorem dL_law_664 : decode cL_law 664 = .ok (.iaload, 1) := by decide +kernel
theorem dL_law_665 : decode cL_law 665 = .ok (.invokevirtual 67, 3) := by decide +kernel
theorem dL_law_668 : decode cL_law 668 = .ok (.aload_n 2, 1) := by decide +kernel
theorem dL_law_669 : decode cL_law 669 = .ok (.aload_n 0, 1) := by decide +kernel
theorem dL_law_670 : decode cL_law 670 = .ok (.iload_n 3, 1) := by decide +kernel
theorem dL_law_671 : decode cL_law 671 = .ok (.iconst 1, 1) := by decide +kernel
theorem dL_law_672 : decode cL_law 672 = .ok (.iadd, 1) := by decide +kernel
theorem dL_law_673 : decode cL_law 673 = .ok (.iaload, 1) := by decide +kernel
theorem dL_law_674 : decode cL_law 674 = .ok (.aload_n 0, 1) := by decide +kernel
theorem dL_law_675 : decode cL_law 675 = .ok (.iload_n 3, 1) := by decide +kernel
theorem dL_law_676 : decode cL_law 676 = .ok (.iconst 2, 1) := by decide +kernel
theorem dL_law_677 : decode cL_law 677 = .ok (.iadd, 1) := by decide +kernel
theorem dL_law_678 : decode cL_law 678 = .ok (.iaload, 1) := by decide +kernel
theorem dL_law_679 : decode cL_law 679 = .ok (.invokevirtual 70, 3) := by decide +kernel
theorem dL_law_682 : decode cL_law 682 = .ok (.if_icmp .eq 511, 3) := by decide +kernel
theorem dL_law_685 : decode cL_law 685 = .ok (.iconst 0, 1) := by decide +kernel
theorem dL_law_686 : decode cL_law 686 = .ok (.ireturn, 1) := by decide +kernel
theorem dL_law_687 : decode cL_law 687 = .ok (.aload_n 1, 1) := by decide +kernel
theorem dL_law_688 : decode cL_law 688 = .ok (.aload_n 0, 1) := by decide +kernel
theorem dL_law_689 : decode cL_law 689 = .ok (.iload_n 3, 1) := by decide +kernel
theorem dL_law_690 : decode cL_law 690 = .ok (.iconst 1, 1) := by decide +kernel
theorem dL_law_691 : decode cL_law 691 = .ok (.iadd, 1) := by decide +kernel
theorem dL_law_692 : decode cL_law 692 = .ok (.iaload, 1) := by decide +kernel
theorem dL_law_693 : decode cL_law 693 = .ok (.aload_n 0, 1) := by decide +kernel
theorem dL_law_694 : decode cL_law 694 = .ok (.iload_n 3, 1) := by decide +kernel
theorem dL_law_695 : decode cL_law 695 = .ok (.iconst 2, 1) := by decide +kernel
theorem dL_law_696 : decode cL_law 696 = .ok (.iadd, 1) := by decide +kernel
theorem dL_law_697 : decode cL_law 697 = .ok (.iaload, 1) := by decide +kernel
theorem dL_law_698 : decode cL_law 698 = .ok (.invokevirtual 71, 3) := by decide +kernel
theorem dL_law_701 : decode cL_law 701 = .ok (.aload_n 2, 1) := by decide +kernel
theorem dL_law_702 : decode cL_law 702 = .ok (.aload_n 0, 1) := by decide +kernel
theorem dL_law_703 : decode cL_law 703 = .ok (.iload_n 3, 1) := by decide +kernel
theorem dL_law_704 : decode cL_law 704 = .ok (.iconst 1, 1) := by decide +kernel
theorem dL_law_705 : decode cL_law 705 = .ok (.iadd, 1) := by decide +kernel
theorem dL_law_706 : decode cL_law 706 = .ok (.iaload, 1) := by decide +kernel
theorem dL_law_707 : decode cL_law 707 = .ok (.aload_n 0, 1) := by decide +kernel
theorem dL_law_708 : decode cL_law 708 = .ok (.iload_n 3, 1) := by decide +kernel
theorem dL_law_709 : decode cL_law 709 = .ok (.iconst 2, 1) := by decide +kernel
theorem dL_law_710 : decode cL_law 710 = .ok (.iadd, 1) := by decide +kernel
theorem dL_law_711 : decode cL_law 711 = .ok (.iaload, 1) := by decide +kernel
theorem dL_law_712 : decode cL_law 712 = .ok (.invokevirtual 75, 3) := by decide +kernel
theorem dL_law_715 : decode cL_law 715 = .ok (.lcmp, 1) := by decide +kernel
theorem dL_law_716 : decode cL_law 716 = .ok (.ifCond .eq 477, 3) := by decide +kernel
theorem dL_law_719 : decode cL_law 719 = .ok (.iconst 0, 1) := by decide +kernel
theorem dL_law_720 : decode cL_law 720 = .ok (.ireturn, 1) := by decide +kernel
theorem dL_law_721 : decode cL_law 721 = .ok (.aload_n 1, 1) := by decide +kernel
theorem dL_law_722 : decode cL_law 722 = .ok (.aload_n 0, 1) := by decide +kernel
theorem dL_law_723 : decode cL_law 723 = .ok (.iload_n 3, 1) := by decide +kernel
theorem dL_law_724 : decode cL_law 724 = .ok (.iconst 1, 1) := by decide +kernel
theorem dL_law_725 : decode cL_law 725 = .ok (.iadd, 1) := by decide +kernel
theorem dL_law_726 : decode cL_law 726 = .ok (.iaload, 1) := by decide +kernel
theorem dL_law_727 : decode cL_law 727 = .ok (.aload_n 0, 1) := by decide +kernel
theorem dL_law_728 : decode cL_law 728 = .ok (.iload_n 3, 1) := by decide +kernel
theorem dL_law_729 : decode cL_law 729 = .ok (.iconst 2, 1) := by decide +kernel
theorem dL_law_730 : decode cL_law 730 = .ok (.iadd, 1) := by decide +kernel
theorem dL_law_731 : decode cL_law 731 = .ok (.iaload, 1) := by decide +kernel
theorem dL_law_732 : decode cL_law 732 = .ok (.aload_n 0, 1) := by decide +kernel
theorem dL_law_733 : decode cL_law 733 = .ok (.iload_n 3, 1) := by decide +kernel
theorem dL_law_734 : decode cL_law 734 = .ok (.iconst 3, 1) := by decide +kernel
theorem dL_law_735 : decode cL_law 735 = .ok (.iadd, 1) := by decide +kernel
theorem dL_law_736 : decode cL_law 736 = .ok (.iaload, 1) := by decide +kernel
theorem dL_law_737 : decode cL_law 737 = .ok (.invokevirtual 76, 3) := by decide +kernel
theorem dL_law_740 : decode cL_law 740 = .ok (.aload_n 2, 1) := by decide +kernel
theorem dL_law_741 : decode cL_law 741 = .ok (.aload_n 0, 1) := by decide +kernel
theorem dL_law_742 : decode cL_law 742 = .ok (.iload_n 3, 1) := by decide +kernel
theorem dL_law_743 : decode cL_law 743 = .ok (.iconst 1, 1) := by decide +kernel
theorem dL_law_744 : decode cL_law 744 = .ok (.iadd, 1) := by decide +kernel
theorem dL_law_745 : decode cL_law 745 = .ok (.iaload, 1) := by decide +kernel
theorem dL_law_746 : decode cL_law 746 = .ok (.aload_n 0, 1) := by decide +kernel
theorem dL_law_747 : decode cL_law 747 = .ok (.iload_n 3, 1) := by decide +kernel
theorem dL_law_748 : decode cL_law 748 = .ok (.iconst 2, 1) := by decide +kernel
theorem dL_law_749 : decode cL_law 749 = .ok (.iadd, 1) := by decide +kernel
theorem dL_law_750 : decode cL_law 750 = .ok (.iaload, 1) := by decide +kernel
theorem dL_law_751 : decode cL_law 751 = .ok (.aload_n 0, 1) := by decide +kernel
theorem dL_law_752 : decode cL_law 752 = .ok (.iload_n 3, 1) := by decide +kernel
theorem dL_law_753 : decode cL_law 753 = .ok (.iconst 3, 1) := by decide +kernel
theorem dL_law_754 : decode cL_law 754 = .ok (.iadd, 1) := by decide +kernel
theorem dL_law_755 : decode cL_law 755 = .ok (.iaload, 1) := by decide +kernel
theorem dL_law_756 : decode cL_law 756 = .ok (.invokevirtual 79, 3) := by decide +kernel
theorem dL_law_759 : decode cL_law 759 = .ok (.if_icmp .eq 434, 3) := by decide +kernel
theorem dL_law_762 : decode cL_law 762 = .ok (.iconst 0, 1) := by decide +kernel
theorem dL_law_763 : decode cL_law 763 = .ok (.ireturn, 1) := by decide +kernel
theorem dL_law_764 : decode cL_law 764 = .ok (.aload_n 1, 1) := by decide +kernel
theorem dL_law_765 : decode cL_law 765 = .ok (.aload_n 0, 1) := by decide +kernel
theorem dL_law_766 : decode cL_law 766 = .ok (.iload_n 3, 1) := by decide +kernel
theorem dL_law_767 : decode cL_law 767 = .ok (.iconst 1, 1) := by decide +kernel
theorem dL_law_768 : decode cL_law 768 = .ok (.iadd, 1) := by decide +kernel
theorem dL_law_769 : decode cL_law 769 = .ok (.iaload, 1) := by decide +kernel
theorem dL_law_770 : decode cL_law 770 = .ok (.invokevirtual 80, 3) := by decide +kernel
theorem dL_law_773 : decode cL_law 773 = .ok (.aload_n 2, 1) := by decide +kernel
theorem dL_law_774 : decode cL_law 774 = .ok (.aload_n 0, 1) := by decide +kernel
theorem dL_law_775 : decode cL_law 775 = .ok (.iload_n 3, 1) := by decide +kernel
theorem dL_law_776 : decode cL_law 776 = .ok (.iconst 1, 1) := by decide +kernel
theorem dL_law_777 : decode cL_law 777 = .ok (.iadd, 1) := by decide +kernel
theorem dL_law_778 : decode cL_law 778 = .ok (.iaload, 1) := by decide +kernel
theorem dL_law_779 : decode cL_law 779 = .ok (.invokevirtual 83, 3) := by decide +kernel
theorem dL_law_782 : decode cL_law 782 = .ok (.if_icmp .eq 411, 3) := by decide +kernel
theorem dL_law_785 : decode cL_law 785 = .ok (.iconst 0, 1) := by decide +kernel
theorem dL_law_786 : decode cL_law 786 = .ok (.ireturn, 1) := by decide +kernel
theorem dL_law_787 : decode cL_law 787 = .ok (.aload_n 1, 1) := by decide +kernel
theorem dL_law_788 : decode cL_law 788 = .ok (.aload_n 0, 1) := by decide +kernel
theorem dL_law_789 : decode cL_law 789 = .ok (.iload_n 3, 1) := by decide +kernel
theorem dL_law_790 : decode cL_law 790 = .ok (.iconst 1, 1) := by decide +kernel
theorem dL_law_791 : decode cL_law 791 = .ok (.iadd, 1) := by decide +kernel
theorem dL_law_792 : decode cL_law 792 = .ok (.iaload, 1) := by decide +kernel
theorem dL_law_793 : decode cL_law 793 = .ok (.aload_n 0, 1) := by decide +kernel
theorem dL_law_794 : decode cL_law 794 = .ok (.iload_n 3, 1) := by decide +kernel
theorem dL_law_795 : decode cL_law 795 = .ok (.iconst 2, 1) := by decide +kernel
theorem dL_law_796 : decode cL_law 796 = .ok (.iadd, 1) := by decide +kernel
theorem dL_law_797 : decode cL_law 797 = .ok (.iaload, 1) := by decide +kernel
theorem dL_law_798 : decode cL_law 798 = .ok (.invokevirtual 84, 3) := by decide +kernel
theorem dL_law_801 : decode cL_law 801 = .ok (.aload_n 2, 1) := by decide +kernel
theorem dL_law_802 : decode cL_law 802 = .ok (.aload_n 0, 1) := by decide +kernel
theorem dL_law_803 : decode cL_law 803 = .ok (.iload_n 3, 1) := by decide +kernel
theorem dL_law_804 : decode cL_law 804 = .ok (.iconst 1, 1) := by decide +kernel
theorem dL_law_805 : decode cL_law 805 = .ok (.iadd, 1) := by decide +kernel
theorem dL_law_806 : decode cL_law 806 = .ok (.iaload, 1) := by decide +kernel
theorem dL_law_807 : decode cL_law 807 = .ok (.aload_n 0, 1) := by decide +kernel
theorem dL_law_808 : decode cL_law 808 = .ok (.iload_n 3, 1) := by decide +kernel
theorem dL_law_809 : decode cL_law 809 = .ok (.iconst 2, 1) := by decide +kernel
theorem dL_law_810 : decode cL_law 810 = .ok (.iadd, 1) := by decide +kernel
theorem dL_law_811 : decode cL_law 811 = .ok (.iaload, 1) := by decide +kernel
theorem dL_law_812 : decode cL_law 812 = .ok (.invokevirtual 87, 3) := by decide +kernel
theorem dL_law_815 : decode cL_law 815 = .ok (.if_icmp .eq 378, 3) := by decide +kernel
theorem dL_law_818 : decode cL_law 818 = .ok (.iconst 0, 1) := by decide +kernel
theorem dL_law_819 : decode cL_law 819 = .ok (.ireturn, 1) := by decide +kernel
theorem dL_law_820 : decode cL_law 820 = .ok (.aload_n 1, 1) := by decide +kernel
theorem dL_law_821 : decode cL_law 821 = .ok (.aload_n 0, 1) := by decide +kernel
theorem dL_law_822 : decode cL_law 822 = .ok (.iload_n 3, 1) := by decide +kernel
theorem dL_law_823 : decode cL_law 823 = .ok (.iconst 1, 1) := by decide +kernel
theorem dL_law_824 : decode cL_law 824 = .ok (.iadd, 1) := by decide +kernel
theorem dL_law_825 : decode cL_law 825 = .ok (.iaload, 1) := by decide +kernel
theorem dL_law_826 : decode cL_law 826 = .ok (.invokevirtual 88, 3) := by decide +kernel
theorem dL_law_829 : decode cL_law 829 = .ok (.aload_n 2, 1) := by decide +kernel
theorem dL_law_830 : decode cL_law 830 = .ok (.aload_n 0, 1) := by decide +kernel
theorem dL_law_831 : decode cL_law 831 = .ok (.iload_n 3, 1) := by decide +kernel
theorem dL_law_832 : decode cL_law 832 = .ok (.iconst 1, 1) := by decide +kernel
theorem dL_law_833 : decode cL_law 833 = .ok (.iadd, 1) := by decide +kernel
theorem dL_law_834 : decode cL_law 834 = .ok (.iaload, 1) := by decide +kernel
theorem dL_law_835 : decode cL_law 835 = .ok (.invokevirtual 91, 3) := by decide +kernel
theorem dL_law_838 : decode cL_law 838 = .ok (.if_icmp .eq 355, 3) := by decide +kernel
theorem dL_law_841 : decode cL_law 841 = .ok (.iconst 0, 1) := by decide +kernel
theorem dL_law_842 : decode cL_law 842 = .ok (.ireturn, 1) := by decide +kernel
theorem dL_law_843 : decode cL_law 843 = .ok (.aload_n 1, 1) := by decide +kernel
theorem dL_law_844 : decode cL_law 844 = .ok (.aload_n 0, 1) := by decide +kernel
theorem dL_law_845 : decode cL_law 845 = .ok (.iload_n 3, 1) := by decide +kernel
theorem dL_law_846 : decode cL_law 846 = .ok (.iconst 1, 1) := by decide +kernel
theorem dL_law_847 : decode cL_law 847 = .ok (.iadd, 1) := by decide +kernel
theorem dL_law_848 : decode cL_law 848 = .ok (.iaload, 1) := by decide +kernel
theorem dL_law_849 : decode cL_law 849 = .ok (.aload_n 0, 1) := by decide +kernel
theorem dL_law_850 : decode cL_law 850 = .ok (.iload_n 3, 1) := by decide +kernel
theorem dL_law_851 : decode cL_law 851 = .ok (.iconst 2, 1) := by decide +kernel
theorem dL_law_852 : decode cL_law 852 = .ok (.iadd, 1) := by decide +kernel
theorem dL_law_853 : decode cL_law 853 = .ok (.iaload, 1) := by decide +kernel
theorem dL_law_854 : decode cL_law 854 = .ok (.invokevirtual 92, 3) := by decide +kernel
theorem dL_law_857 : decode cL_law 857 = .ok (.aload_n 2, 1) := by decide +kernel
theorem dL_law_858 : decode cL_law 858 = .ok (.aload_n 0, 1) := by decide +kernel
theorem dL_law_859 : decode cL_law 859 = .ok (.iload_n 3, 1) := by decide +kernel
theorem dL_law_860 : decode cL_law 860 = .ok (.iconst 1, 1) := by decide +kernel
theorem dL_law_861 : decode cL_law 861 = .ok (.iadd, 1) := by decide +kernel
theorem dL_law_862 : decode cL_law 862 = .ok (.iaload, 1) := by decide +kernel
theorem dL_law_863 : decode cL_law 863 = .ok (.aload_n 0, 1) := by decide +kernel
theorem dL_law_864 : decode cL_law 864 = .ok (.iload_n 3, 1) := by decide +kernel
theorem dL_law_865 : decode cL_law 865 = .ok (.iconst 2, 1) := by decide +kernel
theorem dL_law_866 : decode cL_law 866 = .ok (.iadd, 1) := by decide +kernel
theorem dL_law_867 : decode cL_law 867 = .ok (.iaload, 1) := by decide +kernel
theorem dL_law_868 : decode cL_law 868 = .ok (.invokevirtual 95, 3) := by decide +kernel
theorem dL_law_871 : decode cL_law 871 = .ok (.if_icmp .eq 322, 3) := by decide +kernel
theorem dL_law_874 : decode cL_law 874 = .ok (.iconst 0, 1) := by decide +kernel
theorem dL_law_875 : decode cL_law 875 = .ok (.ireturn, 1) := by decide +kernel
theorem dL_law_876 : decode cL_law 876 = .ok (.aload_n 1, 1) := by decide +kernel
theorem dL_law_877 : decode cL_law 877 = .ok (.aload_n 0, 1) := by decide +kernel
theorem dL_law_878 : decode cL_law 878 = .ok (.iload_n 3, 1) := by decide +kernel
theorem dL_law_879 : decode cL_law 879 = .ok (.iconst 1, 1) := by decide +kernel
theorem dL_law_880 : decode cL_law 880 = .ok (.iadd, 1) := by decide +kernel
theorem dL_law_881 : decode cL_law 881 = .ok (.iaload, 1) := by decide +kernel
theorem dL_law_882 : decode cL_law 882 = .ok (.i2l, 1) := by decide +kernel
theorem dL_law_883 : decode cL_law 883 = .ok (.bipush 32, 2) := by decide +kernel
theorem dL_law_885 : decode cL_law 885 = .ok (.lshl, 1) := by decide +kernel
theorem dL_law_886 : decode cL_law 886 = .ok (.aload_n 0, 1) := by decide +kernel
theorem dL_law_887 : decode cL_law 887 = .ok (.iload_n 3, 1) := by decide +kernel
theorem dL_law_888 : decode cL_law 888 = .ok (.iconst 2, 1) := by decide +kernel
theorem dL_law_889 : decode cL_law 889 = .ok (.iadd, 1) := by decide +kernel
theorem dL_law_890 : decode cL_law 890 = .ok (.iaload, 1) := by decide +kernel
theorem dL_law_891 : decode cL_law 891 = .ok (.i2l, 1) := by decide +kernel
theorem dL_law_892 : decode cL_law 892 = .ok (.ldc2_w 96, 3) := by decide +kernel
theorem dL_law_895 : decode cL_law 895 = .ok (.land, 1) := by decide +kernel
theorem dL_law_896 : decode cL_law 896 = .ok (.lor, 1) := by decide +kernel
theorem dL_law_897 : decode cL_law 897 = .ok (.aload_n 0, 1) := by decide +kernel
theorem dL_law_898 : decode cL_law 898 = .ok (.iload_n 3, 1) := by decide +kernel
theorem dL_law_899 : decode cL_law 899 = .ok (.iconst 3, 1) := by decide +kernel
theorem dL_law_900 : decode cL_law 900 = .ok (.iadd, 1) := by decide +kernel
theorem dL_law_901 : decode cL_law 901 = .ok (.iaload, 1) := by decide +kernel
theorem dL_law_902 : decode cL_law 902 = .ok (.invokevirtual 98, 3) := by decide +kernel
theorem dL_law_905 : decode cL_law 905 = .ok (.aload_n 2, 1) := by decide +kernel
theorem dL_law_906 : decode cL_law 906 = .ok (.aload_n 0, 1) := by decide +kernel
theorem dL_law_907 : decode cL_law 907 = .ok (.iload_n 3, 1) := by decide +kernel
theorem dL_law_908 : decode cL_law 908 = .ok (.iconst 1, 1) := by decide +kernel
theorem dL_law_909 : decode cL_law 909 = .ok (.iadd, 1) := by decide +kernel
theorem dL_law_910 : decode cL_law 910 = .ok (.iaload, 1) := by decide +kernel
theorem dL_law_911 : decode cL_law 911 = .ok (.i2l, 1) := by decide +kernel
theorem dL_law_912 : decode cL_law 912 = .ok (.bipush 32, 2) := by decide +kernel
theorem dL_law_914 : decode cL_law 914 = .ok (.lshl, 1) := by decide +kernel
theorem dL_law_915 : decode cL_law 915 = .ok (.aload_n 0, 1) := by decide +kernel
theorem dL_law_916 : decode cL_law 916 = .ok (.iload_n 3, 1) := by decide +kernel
theorem dL_law_917 : decode cL_law 917 = .ok (.iconst 2, 1) := by decide +kernel
theorem dL_law_918 : decode cL_law 918 = .ok (.iadd, 1) := by decide +kernel
theorem dL_law_919 : decode cL_law 919 = .ok (.iaload, 1) := by decide +kernel
theorem dL_law_920 : decode cL_law 920 = .ok (.i2l, 1) := by decide +kernel
theorem dL_law_921 : decode cL_law 921 = .ok (.ldc2_w 96, 3) := by decide +kernel
theorem dL_law_924 : decode cL_law 924 = .ok (.land, 1) := by decide +kernel
theorem dL_law_925 : decode cL_law 925 = .ok (.lor, 1) := by decide +kernel
theorem dL_law_926 : decode cL_law 926 = .ok (.aload_n 0, 1) := by decide +kernel
theorem dL_law_927 : decode cL_law 927 = .ok (.iload_n 3, 1) := by decide +kernel
theorem dL_law_928 : decode cL_law 928 = .ok (.iconst 3, 1) := by decide +kernel
theorem dL_law_929 : decode cL_law 929 = .ok (.iadd, 1) := by decide +kernel
theorem dL_law_930 : decode cL_law 930 = .ok (.iaload, 1) := by decide +kernel
theorem dL_law_931 : decode cL_law 931 = .ok (.invokevirtual 102, 3) := by decide +kernel
theorem dL_law_934 : decode cL_law 934 = .ok (.if_icmp .eq 259, 3) := by decide +kernel
theorem dL_law_937 : decode cL_law 937 = .ok (.iconst 0, 1) := by decide +kernel
theorem dL_law_938 : decode cL_law 938 = .ok (.ireturn, 1) := by decide +kernel
theorem dL_law_939 : decode cL_law 939 = .ok (.aload_n 1, 1) := by decide +kernel
theorem dL_law_940 : decode cL_law 940 = .ok (.aload_n 0, 1) := by decide +kernel
theorem dL_law_941 : decode cL_law 941 = .ok (.iload_n 3, 1) := by decide +kernel
theorem dL_law_942 : decode cL_law 942 = .ok (.iconst 1, 1) := by decide +kernel
theorem dL_law_943 : decode cL_law 943 = .ok (.iadd, 1) := by decide +kernel
theorem dL_law_944 : decode cL_law 944 = .ok (.iaload, 1) := by decide +kernel
theorem dL_law_945 : decode cL_law 945 = .ok (.aload_n 0, 1) := by decide +kernel
theorem dL_law_946 : decode cL_law 946 = .ok (.iload_n 3, 1) := by decide +kernel
theorem dL_law_947 : decode cL_law 947 = .ok (.iconst 2, 1) := by decide +kernel
theorem dL_law_948 : decode cL_law 948 = .ok (.iadd, 1) := by decide +kernel
theorem dL_law_949 : decode cL_law 949 = .ok (.iaload, 1) := by decide +kernel
theorem dL_law_950 : decode cL_law 950 = .ok (.aload_n 0, 1) := by decide +kernel
theorem dL_law_951 : decode cL_law 951 = .ok (.iload_n 3, 1) := by decide +kernel
theorem dL_law_952 : decode cL_law 952 = .ok (.iconst 3, 1) := by decide +kernel
theorem dL_law_953 : decode cL_law 953 = .ok (.iadd, 1) := by decide +kernel
theorem dL_law_954 : decode cL_law 954 = .ok (.iaload, 1) := by decide +kernel
theorem dL_law_955 : decode cL_law 955 = .ok (.invokevirtual 103, 3) := by decide +kernel
theorem dL_law_958 : decode cL_law 958 = .ok (.aload_n 2, 1) := by decide +kernel
theorem dL_law_959 : decode cL_law 959 = .ok (.aload_n 0, 1) := by decide +kernel
theorem dL_law_960 : decode cL_law 960 = .ok (.iload_n 3, 1) := by decide +kernel
theorem dL_law_961 : decode cL_law 961 = .ok (.iconst 1, 1) := by decide +kernel
theorem dL_law_962 : decode cL_law 962 = .ok (.iadd, 1) := by decide +kernel
theorem dL_law_963 : decode cL_law 963 = .ok (.iaload, 1) := by decide +kernel
theorem dL_law_964 : decode cL_law 964 = .ok (.aload_n 0, 1) := by decide +kernel
theorem dL_law_965 : decode cL_law 965 = .ok (.iload_n 3, 1) := by decide +kernel
theorem dL_law_966 : decode cL_law 966 = .ok (.iconst 2, 1) := by decide +kernel
theorem dL_law_967 : decode cL_law 967 = .ok (.iadd, 1) := by decide +kernel
theorem dL_law_968 : decode cL_law 968 = .ok (.iaload, 1) := by decide +kernel
theorem dL_law_969 : decode cL_law 969 = .ok (.aload_n 0, 1) := by decide +kernel
theorem dL_law_970 : decode cL_law 970 = .ok (.iload_n 3, 1) := by decide +kernel
theorem dL_law_971 : decode cL_law 971 = .ok (.iconst 3, 1) := by decide +kernel
theorem dL_law_972 : decode cL_law 972 = .ok (.iadd, 1) := by decide +kernel
theorem dL_law_973 : decode cL_law 973 = .ok (.iaload, 1) := by decide +kernel
theorem dL_law_974 : decode cL_law 974 = .ok (.invokevirtual 106, 3) := by decide +kernel
theorem dL_law_977 : decode cL_law 977 = .ok (.if_icmp .eq 216, 3) := by decide +kernel
theorem dL_law_980 : decode cL_law 980 = .ok (.iconst 0, 1) := by decide +kernel
theorem dL_law_981 : decode cL_law 981 = .ok (.ireturn, 1) := by decide +kernel
theorem dL_law_982 : decode cL_law 982 = .ok (.aload_n 1, 1) := by decide +kernel
theorem dL_law_983 : decode cL_law 983 = .ok (.aload_n 0, 1) := by decide +kernel
theorem dL_law_984 : decode cL_law 984 = .ok (.iload_n 3, 1) := by decide +kernel
theorem dL_law_985 : decode cL_law 985 = .ok (.iconst 1, 1) := by decide +kernel
theorem dL_law_986 : decode cL_law 986 = .ok (.iadd, 1) := by decide +kernel
theorem dL_law_987 : decode cL_law 987 = .ok (.iaload, 1) := by decide +kernel
theorem dL_law_988 : decode cL_law 988 = .ok (.aload_n 0, 1) := by decide +kernel
theorem dL_law_989 : decode cL_law 989 = .ok (.iload_n 3, 1) := by decide +kernel
theorem dL_law_990 : decode cL_law 990 = .ok (.iconst 2, 1) := by decide +kernel
theorem dL_law_991 : decode cL_law 991 = .ok (.iadd, 1) := by decide +kernel
theorem dL_law_992 : decode cL_law 992 = .ok (.iaload, 1) := by decide +kernel
theorem dL_law_993 : decode cL_law 993 = .ok (.invokevirtual 107, 3) := by decide +kernel
theorem dL_law_996 : decode cL_law 996 = .ok (.aload_n 2, 1) := by decide +kernel
theorem dL_law_997 : decode cL_law 997 = .ok (.aload_n 0, 1) := by decide +kernel
theorem dL_law_998 : decode cL_law 998 = .ok (.iload_n 3, 1) := by decide +kernel
theorem dL_law_999 : decode cL_law 999 = .ok (.iconst 1, 1) := by decide +kernel
theorem dL_law_1000 : decode cL_law 1000 = .ok (.iadd, 1) := by decide +kernel
theorem dL_law_1001 : decode cL_law 1001 = .ok (.iaload, 1) := by decide +kernel
theorem dL_law_1002 : decode cL_law 1002 = .ok (.aload_n 0, 1) := by decide +kernel
theorem dL_law_1003 : decode cL_law 1003 = .ok (.iload_n 3, 1) := by decide +kernel
theorem dL_law_1004 : decode cL_law 1004 = .ok (.iconst 2, 1) := by decide +kernel
theorem dL_law_1005 : decode cL_law 1005 = .ok (.iadd, 1) := by decide +kernel
theorem dL_law_1006 : decode cL_law 1006 = .ok (.iaload, 1) := by decide +kernel
theorem dL_law_1007 : decode cL_law 1007 = .ok (.invokevirtual 110, 3) := by decide +kernel
theorem dL_law_1010 : decode cL_law 1010 = .ok (.lcmp, 1) := by decide +kernel
theorem dL_law_1011 : decode cL_law 1011 = .ok (.ifCond .eq 182, 3) := by decide +kernel
theorem dL_law_1014 : decode cL_law 1014 = .ok (.iconst 0, 1) := by decide +kernel
theorem dL_law_1015 : decode cL_law 1015 = .ok (.ireturn, 1) := by decide +kernel
theorem dL_law_1016 : decode cL_law 1016 = .ok (.aload_n 1, 1) := by decide +kernel
theorem dL_law_1017 : decode cL_law 1017 = .ok (.aload_n 0, 1) := by decide +kernel
theorem dL_law_1018 : decode cL_law 1018 = .ok (.iload_n 3, 1) := by decide +kernel
theorem dL_law_1019 : decode cL_law 1019 = .ok (.iconst 1, 1) := by decide +kernel
theorem dL_law_1020 : decode cL_law 1020 = .ok (.iadd, 1) := by decide +kernel
theorem dL_law_1021 : decode cL_law 1021 = .ok (.iaload, 1) := by decide +kernel
theorem dL_law_1022 : decode cL_law 1022 = .ok (.invokevirtual 111, 3) := by decide +kernel
theorem dL_law_1025 : decode cL_law 1025 = .ok (.aload_n 2, 1) := by decide +kernel
theorem dL_law_1026 : decode cL_law 1026 = .ok (.aload_n 0, 1) := by decide +kernel
theorem dL_law_1027 : decode cL_law 1027 = .ok (.iload_n 3, 1) := by decide +kernel
theorem dL_law_1028 : decode cL_law 1028 = .ok (.iconst 1, 1) := by decide +kernel
theorem dL_law_1029 : decode cL_law 1029 = .ok (.iadd, 1) := by decide +kernel
theorem dL_law_1030 : decode cL_law 1030 = .ok (.iaload, 1) := by decide +kernel
theorem dL_law_1031 : decode cL_law 1031 = .ok (.invokevirtual 114, 3) := by decide +kernel
theorem dL_law_1034 : decode cL_law 1034 = .ok (.if_icmp .eq 159, 3) := by decide +kernel
theorem dL_law_1037 : decode cL_law 1037 = .ok (.iconst 0, 1) := by decide +kernel
theorem dL_law_1038 : decode cL_law 1038 = .ok (.ireturn, 1) := by decide +kernel
theorem dL_law_1039 : decode cL_law 1039 = .ok (.aload_n 1, 1) := by decide +kernel
theorem dL_law_1040 : decode cL_law 1040 = .ok (.aload_n 0, 1) := by decide +kernel
theorem dL_law_1041 : decode cL_law 1041 = .ok (.iload_n 3, 1) := by decide +kernel
theorem dL_law_1042 : decode cL_law 1042 = .ok (.iconst 1, 1) := by decide +kernel
theorem dL_law_1043 : decode cL_law 1043 = .ok (.iadd, 1) := by decide +kernel
theorem dL_law_1044 : decode cL_law 1044 = .ok (.iaload, 1) := by decide +kernel
theorem dL_law_1045 : decode cL_law 1045 = .ok (.aload_n 0, 1) := by decide +kernel
theorem dL_law_1046 : decode cL_law 1046 = .ok (.iload_n 3, 1) := by decide +kernel
theorem dL_law_1047 : decode cL_law 1047 = .ok (.iconst 2, 1) := by decide +kernel
theorem dL_law_1048 : decode cL_law 1048 = .ok (.iadd, 1) := by decide +kernel
theorem dL_law_1049 : decode cL_law 1049 = .ok (.iaload, 1) := by decide +kernel
theorem dL_law_1050 : decode cL_law 1050 = .ok (.aload_n 0, 1) := by decide +kernel
theorem dL_law_1051 : decode cL_law 1051 = .ok (.iload_n 3, 1) := by decide +kernel
theorem dL_law_1052 : decode cL_law 1052 = .ok (.iconst 3, 1) := by decide +kernel
theorem dL_law_1053 : decode cL_law 1053 = .ok (.iadd, 1) := by decide +kernel
theorem dL_law_1054 : decode cL_law 1054 = .ok (.iaload, 1) := by decide +kernel
theorem dL_law_1055 : decode cL_law 1055 = .ok (.aload_n 0, 1) := by decide +kernel
theorem dL_law_1056 : decode cL_law 1056 = .ok (.iload_n 3, 1) := by decide +kernel
theorem dL_law_1057 : decode cL_law 1057 = .ok (.iconst 4, 1) := by decide +kernel
theorem dL_law_1058 : decode cL_law 1058 = .ok (.iadd, 1) := by decide +kernel
theorem dL_law_1059 : decode cL_law 1059 = .ok (.iaload, 1) := by decide +kernel
theorem dL_law_1060 : decode cL_law 1060 = .ok (.aload_n 0, 1) := by decide +kernel
theorem dL_law_1061 : decode cL_law 1061 = .ok (.iload_n 3, 1) := by decide +kernel
theorem dL_law_1062 : decode cL_law 1062 = .ok (.iconst 5, 1) := by decide +kernel
theorem dL_law_1063 : decode cL_law 1063 = .ok (.iadd, 1) := by decide +kernel
theorem dL_law_1064 : decode cL_law 1064 = .ok (.iaload, 1) := by decide +kernel
theorem dL_law_1065 : decode cL_law 1065 = .ok (.aload_n 0, 1) := by decide +kernel
theorem dL_law_1066 : decode cL_law 1066 = .ok (.iload_n 3, 1) := by decide +kernel
theorem dL_law_1067 : decode cL_law 1067 = .ok (.bipush 6, 2) := by decide +kernel
theorem dL_law_1069 : decode cL_law 1069 = .ok (.iadd, 1) := by decide +kernel
theorem dL_law_1070 : decode cL_law 1070 = .ok (.iaload, 1) := by decide +kernel
theorem dL_law_1071 : decode cL_law 1071 = .ok (.invokevirtual 115, 3) := by decide +kernel
theorem dL_law_1074 : decode cL_law 1074 = .ok (.aload_n 2, 1) := by decide +kernel
theorem dL_law_1075 : decode cL_law 1075 = .ok (.aload_n 0, 1) := by decide +kernel
theorem dL_law_1076 : decode cL_law 1076 = .ok (.iload_n 3, 1) := by decide +kernel
theorem dL_law_1077 : decode cL_law 1077 = .ok (.iconst 1, 1) := by decide +kernel
theorem dL_law_1078 : decode cL_law 1078 = .ok (.iadd, 1) := by decide +kernel
theorem dL_law_1079 : decode cL_law 1079 = .ok (.iaload, 1) := by decide +kernel
theorem dL_law_1080 : decode cL_law 1080 = .ok (.aload_n 0, 1) := by decide +kernel
theorem dL_law_1081 : decode cL_law 1081 = .ok (.iload_n 3, 1) := by decide +kernel
theorem dL_law_1082 : decode cL_law 1082 = .ok (.iconst 2, 1) := by decide +kernel
theorem dL_law_1083 : decode cL_law 1083 = .ok (.iadd, 1) := by decide +kernel
theorem dL_law_1084 : decode cL_law 1084 = .ok (.iaload, 1) := by decide +kernel
theorem dL_law_1085 : decode cL_law 1085 = .ok (.aload_n 0, 1) := by decide +kernel
theorem dL_law_1086 : decode cL_law 1086 = .ok (.iload_n 3, 1) := by decide +kernel
theorem dL_law_1087 : decode cL_law 1087 = .ok (.iconst 3, 1) := by decide +kernel
theorem dL_law_1088 : decode cL_law 1088 = .ok (.iadd, 1) := by decide +kernel
theorem dL_law_1089 : decode cL_law 1089 = .ok (.iaload, 1) := by decide +kernel
theorem dL_law_1090 : decode cL_law 1090 = .ok (.aload_n 0, 1) := by decide +kernel
theorem dL_law_1091 : decode cL_law 1091 = .ok (.iload_n 3, 1) := by decide +kernel
theorem dL_law_1092 : decode cL_law 1092 = .ok (.iconst 4, 1) := by decide +kernel
theorem dL_law_1093 : decode cL_law 1093 = .ok (.iadd, 1) := by decide +kernel
theorem dL_law_1094 : decode cL_law 1094 = .ok (.iaload, 1) := by decide +kernel
theorem dL_law_1095 : decode cL_law 1095 = .ok (.aload_n 0, 1) := by decide +kernel
theorem dL_law_1096 : decode cL_law 1096 = .ok (.iload_n 3, 1) := by decide +kernel
theorem dL_law_1097 : decode cL_law 1097 = .ok (.iconst 5, 1) := by decide +kernel
theorem dL_law_1098 : decode cL_law 1098 = .ok (.iadd, 1) := by decide +kernel
theorem dL_law_1099 : decode cL_law 1099 = .ok (.iaload, 1) := by decide +kernel
theorem dL_law_1100 : decode cL_law 1100 = .ok (.aload_n 0, 1) := by decide +kernel
theorem dL_law_1101 : decode cL_law 1101 = .ok (.iload_n 3, 1) := by decide +kernel
theorem dL_law_1102 : decode cL_law 1102 = .ok (.bipush 6, 2) := by decide +kernel
theorem dL_law_1104 : decode cL_law 1104 = .ok (.iadd, 1) := by decide +kernel
theorem dL_law_1105 : decode cL_law 1105 = .ok (.iaload, 1) := by decide +kernel
theorem dL_law_1106 : decode cL_law 1106 = .ok (.invokevirtual 118, 3) := by decide +kernel
theorem dL_law_1109 : decode cL_law 1109 = .ok (.if_icmp .eq 84, 3) := by decide +kernel
theorem dL_law_1112 : decode cL_law 1112 = .ok (.iconst 0, 1) := by decide +kernel
theorem dL_law_1113 : decode cL_law 1113 = .ok (.ireturn, 1) := by decide +kernel
theorem dL_law_1114 : decode cL_law 1114 = .ok (.aload_n 1, 1) := by decide +kernel
theorem dL_law_1115 : decode cL_law 1115 = .ok (.aload_n 0, 1) := by decide +kernel
theorem dL_law_1116 : decode cL_law 1116 = .ok (.iload_n 3, 1) := by decide +kernel
theorem dL_law_1117 : decode cL_law 1117 = .ok (.iconst 1, 1) := by decide +kernel
theorem dL_law_1118 : decode cL_law 1118 = .ok (.iadd, 1) := by decide +kernel
theorem dL_law_1119 : decode cL_law 1119 = .ok (.iaload, 1) := by decide +kernel
theorem dL_law_1120 : decode cL_law 1120 = .ok (.aload_n 0, 1) := by decide +kernel
theorem dL_law_1121 : decode cL_law 1121 = .ok (.iload_n 3, 1) := by decide +kernel
theorem dL_law_1122 : decode cL_law 1122 = .ok (.iconst 2, 1) := by decide +kernel
theorem dL_law_1123 : decode cL_law 1123 = .ok (.iadd, 1) := by decide +kernel
theorem dL_law_1124 : decode cL_law 1124 = .ok (.iaload, 1) := by decide +kernel
theorem dL_law_1125 : decode cL_law 1125 = .ok (.invokevirtual 119, 3) := by decide +kernel
theorem dL_law_1128 : decode cL_law 1128 = .ok (.aload_n 2, 1) := by decide +kernel
theorem dL_law_1129 : decode cL_law 1129 = .ok (.aload_n 0, 1) := by decide +kernel
theorem dL_law_1130 : decode cL_law 1130 = .ok (.iload_n 3, 1) := by decide +kernel
theorem dL_law_1131 : decode cL_law 1131 = .ok (.iconst 1, 1) := by decide +kernel
theorem dL_law_1132 : decode cL_law 1132 = .ok (.iadd, 1) := by decide +kernel
theorem dL_law_1133 : decode cL_law 1133 = .ok (.iaload, 1) := by decide +kernel
theorem dL_law_1134 : decode cL_law 1134 = .ok (.aload_n 0, 1) := by decide +kernel
theorem dL_law_1135 : decode cL_law 1135 = .ok (.iload_n 3, 1) := by decide +kernel
theorem dL_law_1136 : decode cL_law 1136 = .ok (.iconst 2, 1) := by decide +kernel
theorem dL_law_1137 : decode cL_law 1137 = .ok (.iadd, 1) := by decide +kernel
theorem dL_law_1138 : decode cL_law 1138 = .ok (.iaload, 1) := by decide +kernel
theorem dL_law_1139 : decode cL_law 1139 = .ok (.invokevirtual 122, 3) := by decide +kernel
theorem dL_law_1142 : decode cL_law 1142 = .ok (.if_icmp .eq 51, 3) := by decide +kernel
theorem dL_law_1145 : decode cL_law 1145 = .ok (.iconst 0, 1) := by decide +kernel
theorem dL_law_1146 : decode cL_law 1146 = .ok (.ireturn, 1) := by decide +kernel
theorem dL_law_1147 : decode cL_law 1147 = .ok (.aload_n 1, 1) := by decide +kernel
theorem dL_law_1148 : decode cL_law 1148 = .ok (.aload_n 0, 1) := by decide +kernel
theorem dL_law_1149 : decode cL_law 1149 = .ok (.iload_n 3, 1) := by decide +kernel
theorem dL_law_1150 : decode cL_law 1150 = .ok (.iconst 1, 1) := by decide +kernel
theorem dL_law_1151 : decode cL_law 1151 = .ok (.iadd, 1) := by decide +kernel
theorem dL_law_1152 : decode cL_law 1152 = .ok (.iaload, 1) := by decide +kernel
theorem dL_law_1153 : decode cL_law 1153 = .ok (.invokevirtual 123, 3) := by decide +kernel
theorem dL_law_1156 : decode cL_law 1156 = .ok (.aload_n 2, 1) := by decide +kernel
theorem dL_law_1157 : decode cL_law 1157 = .ok (.aload_n 0, 1) := by decide +kernel
theorem dL_law_1158 : decode cL_law 1158 = .ok (.iload_n 3, 1) := by decide +kernel
theorem dL_law_1159 : decode cL_law 1159 = .ok (.iconst 1, 1) := by decide +kernel
theorem dL_law_1160 : decode cL_law 1160 = .ok (.iadd, 1) := by decide +kernel
theorem dL_law_1161 : decode cL_law 1161 = .ok (.iaload, 1) := by decide +kernel
theorem dL_law_1162 : decode cL_law 1162 = .ok (.invokevirtual 126, 3) := by decide +kernel
theorem dL_law_1165 : decode cL_law 1165 = .ok (.if_icmp .eq 28, 3) := by decide +kernel
theorem dL_law_1168 : decode cL_law 1168 = .ok (.iconst 0, 1) := by decide +kernel
theorem dL_law_1169 : decode cL_law 1169 = .ok (.ireturn, 1) := by decide +kernel
theorem dL_law_1170 : decode cL_law 1170 = .ok (.aload_n 1, 1) := by decide +kernel
theorem dL_law_1171 : decode cL_law 1171 = .ok (.aload_n 0, 1) := by decide +kernel
theorem dL_law_1172 : decode cL_law 1172 = .ok (.iload_n 3, 1) := by decide +kernel
theorem dL_law_1173 : decode cL_law 1173 = .ok (.iconst 1, 1) := by decide +kernel
theorem dL_law_1174 : decode cL_law 1174 = .ok (.iadd, 1) := by decide +kernel
theorem dL_law_1175 : decode cL_law 1175 = .ok (.iaload, 1) := by decide +kernel
theorem dL_law_1176 : decode cL_law 1176 = .ok (.invokevirtual 127, 3) := by decide +kernel
theorem dL_law_1179 : decode cL_law 1179 = .ok (.aload_n 2, 1) := by decide +kernel
theorem dL_law_1180 : decode cL_law 1180 = .ok (.aload_n 0, 1) := by decide +kernel
theorem dL_law_1181 : decode cL_law 1181 = .ok (.iload_n 3, 1) := by decide +kernel
theorem dL_law_1182 : decode cL_law 1182 = .ok (.iconst 1, 1) := by decide +kernel
theorem dL_law_1183 : decode cL_law 1183 = .ok (.iadd, 1) := by decide +kernel
theorem dL_law_1184 : decode cL_law 1184 = .ok (.iaload, 1) := by decide +kernel
theorem dL_law_1185 : decode cL_law 1185 = .ok (.invokevirtual 130, 3) := by decide +kernel
theorem dL_law_1188 : decode cL_law 1188 = .ok (.if_icmp .eq 5, 3) := by decide +kernel
theorem dL_law_1191 : decode cL_law 1191 = .ok (.iconst 0, 1) := by decide +kernel
theorem dL_law_1192 : decode cL_law 1192 = .ok (.ireturn, 1) := by decide +kernel
theorem dL_law_1193 : decode cL_law 1193 = .ok (.iinc 3 7, 3) := by decide +kernel
theorem dL_law_1196 : decode cL_law 1196 = .ok (.goto (-1178), 3) := by decide +kernel
theorem dL_law_1199 : decode cL_law 1199 = .ok (.iconst 1, 1) := by decide +kernel
theorem dL_law_1200 : decode cL_law 1200 = .ok (.ireturn, 1) := by decide +kernel
end
section

/-! MEMORY: by address: its kind, its length, the ints, longs and references that it holds by place; and how many cells there are -/
abbrev Mm : Type := (Nat → Nat) × (Nat → Nat) × (Nat → Nat → Int32) × (Nat → Nat → Int64) × (Nat → Nat → Option Nat) × Nat
def ddT (M : Mm) : Nat → Nat := M.1
def ddN (M : Mm) : Nat → Nat := M.2.1
def ddI (M : Mm) : Nat → Nat → Int32 := M.2.2.1
def ddL (M : Mm) : Nat → Nat → Int64 := M.2.2.2.1
def ddR (M : Mm) : Nat → Nat → Option Nat := M.2.2.2.2.1
def ddZ (M : Mm) : Nat := M.2.2.2.2.2
def up1_ {α : Type} (f : Nat → α) (a : Nat) (v : α) : Nat → α := fun x => if x = a then v else f x
def up2_ {α : Type} (f : Nat → Nat → α) (a k : Nat) (v : α) : Nat → Nat → α := fun x y => if x = a ∧ y = k then v else f x y
def suI (M : Mm) (a k : Nat) (v : Int32) : Mm := (M.1, M.2.1, up2_ M.2.2.1 a k v, M.2.2.2)
def suL (M : Mm) (a k : Nat) (v : Int64) : Mm := (M.1, M.2.1, M.2.2.1, up2_ M.2.2.2.1 a k v, M.2.2.2.2)
def suR (M : Mm) (a k : Nat) (v : Option Nat) : Mm := (M.1, M.2.1, M.2.2.1, M.2.2.2.1, up2_ M.2.2.2.2.1 a k v, M.2.2.2.2.2)
def suN (M : Mm) (t len : Nat) : Mm := (up1_ M.1 (ddZ M) t, up1_ M.2.1 (ddZ M) len, up1_ M.2.2.1 (ddZ M) (fun _ => 0), up1_ M.2.2.2.1 (ddZ M) (fun _ => 0), up1_ M.2.2.2.2.1 (ddZ M) (fun _ => none), ddZ M + 1)
/-! what stands in a local or on the stack: an int, a long, a reference -/
abbrev Sm : Type := Int32 ⊕ (Int64 ⊕ Option Nat)
def tv_ : Sm → Value
  | .inl x => .int x
  | .inr (.inl x) => .long x
  | .inr (.inr o) => va_rf o
def lg2_ : Sm → Bool
  | .inr (.inl _) => true
  | _ => false
theorem tv_cat (v : Sm) : (tv_ v).category = if lg2_ v then 2 else 1 := by
  rcases v with x | x | o
  · rfl
  · rfl
  · cases o <;> rfl
def kd_tab : List (List Nat) := [[0, 0, 0, 0, 0, 1], [0, 0, 0], [0, 0, 0, 0, 0, 0, 0, 0, 2, 0, 0, 0, 0, 2, 2, 2, 1, 1], [2, 0, 0, 0, 0, 2], [2, 0, 0], [2, 0], [2, 0, 1, 1, 2], [0, 0, 2], [0, 0, 0, 0], [2, 2, 2, 0, 2, 2, 0], [2, 2, 2, 2, 0], [0, 0, 2, 2, 2, 2, 2, 2, 2, 2, 2, 2, 2, 2, 2, 2, 0, 2, 2, 2, 2, 0, 2, 2, 2, 2, 2, 2, 2, 2, 2, 2, 0, 2, 2, 0, 2, 2]]
def kd_ (ci k : Nat) : Nat := (kd_tab.getD ci []).getD k 0
def nf_ (ci : Nat) : Nat := (kd_tab.getD ci []).length
def fv_ (M : Mm) (ci a k : Nat) : Value := if kd_ ci k = 0 then .int (ddI M a k) else if kd_ ci k = 1 then .long (ddL M a k) else va_rf (ddR M a k)
/-- launch; class numbers and slots; array classes by kind; the first cell that is ours; the cell of the table of tens -/
abbrev Cx_ : Type := Launch × va_G × (Nat → ClassId) × Nat × Nat
def A_x (X : Cx_) : Nat → Prop := fun q => X.2.2.2.1 ≤ q
def ty_s (X : Cx_) : List (ClassId × FieldType) := [(X.2.2.1 20, .int), (X.2.2.1 21, .long), (X.2.2.1 22, .boolean), (X.2.2.1 23, .object "DialDesk$Call"), (X.2.2.1 24, .object "DialDesk$Demand"), (X.2.2.1 25, .object "DialDesk$Entry"), (X.2.2.1 26, .object "DialDesk$Line"), (X.2.2.1 27, .object "DialDesk$Option")]
def te_ (j : Nat) : Int64 := Int64.ofNat (10 ^ j)
def K_x (X : Cx_) (U : State) : Prop := va_K X.2.1 vwCl (ty_s X) U ∧ va_Z "DialDesk" "TENS" "[J" (.ref X.2.2.2.2) (A_x X) U U.heap ∧ va_T .long X.2.2.2.2 17 (fun j => .long (te_ j)) (A_x X) U U.heap ∧ (∀ a i x h, Cond.methodLinkNest a i x h ∈ lw_tbl → va_Nw (.methodLinkNest a i x h) U) ∧ ∀ C, Cond.arrayOver (.object C) ∈ lw_tbl → va_AO C U
theorem K_x.moved {X : Cx_} {s U : State} {H : Heap} {locs : List Loc} (h : K_x X s) (hS : va_S (A_x X) s.heap H locs) (hW : s.WarmedH U.vm) (hU : U.heap = H) : K_x X U := by
  obtain ⟨h1, h2, h3, h4, h5⟩ := h
  have hvm := hW.alike
  refine ⟨va_K.moved hvm h1, ?_, ?_, fun a i x h hw => va_Nw.warmM hW (h4 a i x h hw), fun C hw => va_AO.moved hvm (h5 C hw)⟩
  · rw [hU]
    exact va_Z.moved hvm (h2.kept (fun a h5 h6 => hS.2.1 a h5 h6))
  · rw [hU]
    exact va_T.moved hvm (h3.kept (fun a h5 h6 => hS.2.1 a h5 h6))
/-- the cell at a is what the memory says -/
def hpA (X : Cx_) (M : Mm) (a : Nat) (H : Heap) : Prop :=
  (∀ ci, ddT M a = ci + 1 → ci < 12 → t_OB a (X.2.1.1 ci) (nf_ ci) (X.2.1.2 ci) H (fv_ M ci a)) ∧
  (ddT M a = 20 → H[a]? = some (arrV (X.2.2.1 20) (ddN M a) (fun j => .int (ddI M a j)))) ∧
  (ddT M a = 21 → H[a]? = some (arrV (X.2.2.1 21) (ddN M a) (fun j => .long (ddL M a j)))) ∧
  (ddT M a = 22 → H[a]? = some (arrV (X.2.2.1 22) (ddN M a) (fun j => .int (ddI M a j)))) ∧
  (∀ t, 23 ≤ t → ddT M a = t → H[a]? = some (arrV (X.2.2.1 t) (ddN M a) (fun j => va_rf (ddR M a j))))
def hp_ (X : Cx_) (M : Mm) (H : Heap) : Prop := H.size = ddZ M ∧ X.2.2.2.1 ≤ ddZ M ∧ (∀ a, ddT M a ≠ 0 → X.2.2.2.1 ≤ a) ∧ (∀ a, ddZ M ≤ a → ddT M a = 0) ∧ ∀ a, hpA X M a H
theorem hp_set {X : Cx_} {M M' : Mm} {H H' : Heap} {a : Nat} (h : hp_ X M H) (eT : ddT M' = ddT M) (eN : ddN M' = ddN M) (eZ : ddZ M' = ddZ M) (eI : ∀ b, b ≠ a → ddI M' b = ddI M b) (eL : ∀ b, b ≠ a → ddL M' b = ddL M b) (eR : ∀ b, b ≠ a → ddR M' b = ddR M b)
    (z : H'.size = H.size) (oq : ∀ q, q ≠ a → H'[q]? = H[q]?) (ha : hpA X M' a H') : hp_ X M' H' := by
  obtain ⟨h1, h2, h3, h5, h4⟩ := h
  refine ⟨by rw [z, h1, eZ], by rw [eZ]; exact h2, fun b hb => h3 b (by rw [← eT]; exact hb), fun b hb => by rw [eT]; exact h5 b (by rw [← eZ]; exact hb), fun b => ?_⟩
  by_cases hba : b = a
  · subst hba
    exact ha
  · have g := h4 b
    unfold hpA at g ⊢
    have ef : ∀ ci, fv_ M' ci b = fv_ M ci b := fun ci => by
      funext k
      simp only [fv_, eI b hba, eL b hba, eR b hba]
    rw [eT, eN, eI b hba, eL b hba, eR b hba, oq b hba]
    obtain ⟨g1, g2⟩ := g
    exact ⟨fun ci hc hl => by rw [ef]; exact (g1 ci hc hl).kept (oq b hba), g2⟩
theorem hp_new {X : Cx_} {M : Mm} {H H' : Heap} {t len : Nat} (h : hp_ X M H) (z : H'.size = H.size + 1) (oq : ∀ q, q < H.size → H'[q]? = H[q]?) (ha : hpA X (suN M t len) (ddZ M) H') : hp_ X (suN M t len) H' := by
  obtain ⟨h1, h2, h3, h5, h4⟩ := h
  refine ⟨by rw [z, h1]; rfl, Nat.le_succ_of_le h2, fun b hb => ?_, fun b hb => ?_, fun b => ?_⟩
  · by_cases hba : b = ddZ M
    · rw [hba]
      exact h2
    · exact h3 b (by simpa [ddT, suN, up1_, hba] using hb)
  · have hba : b ≠ ddZ M := by
      have : ddZ M + 1 ≤ b := hb
      omega
    have hb2 : ddZ M ≤ b := Nat.le_of_succ_le hb
    simpa [ddT, suN, up1_, hba] using h5 b hb2
  · by_cases hba : b = ddZ M
    · subst hba
      exact ha
    · have g := h4 b
      have eT : ddT (suN M t len) b = ddT M b := by simp [ddT, suN, up1_, hba]
      have eN : ddN (suN M t len) b = ddN M b := by simp [ddN, suN, up1_, hba]
      have eI : ddI (suN M t len) b = ddI M b := by simp [ddI, suN, up1_, hba]
      have eL : ddL (suN M t len) b = ddL M b := by simp [ddL, suN, up1_, hba]
      have eR : ddR (suN M t len) b = ddR M b := by simp [ddR, suN, up1_, hba]
      by_cases hT0 : ddT M b = 0
      · unfold hpA
        rw [eT, hT0]
        refine ⟨fun ci hc => by omega, fun hc => by omega, fun hc => by omega, fun hc => by omega, fun t ht hc => by omega⟩
      · have hlt : b < H.size := by
          rw [h1]
          rcases Nat.lt_or_ge b (ddZ M) with q | q
          · exact q
          · exact absurd (h5 b q) hT0
        unfold hpA at g ⊢
        have ef : ∀ ci, fv_ (suN M t len) ci b = fv_ M ci b := fun ci => by
          funext k
          simp only [fv_, eI, eL, eR]
        rw [eT, eN, eI, eL, eR, oq b hlt]
        obtain ⟨g1, g2⟩ := g
        exact ⟨fun ci hc hl => by rw [ef]; exact (g1 ci hc hl).kept (oq b hlt), g2⟩
/-! the tables' words -/
def lw_tbg : List Cond := lw_tbl.filter goodWord
theorem tg_ {w : Cond} (h : w ∈ lw_tbl) (hg : goodWord w = true) : w ∈ lw_tbg := List.mem_filter.mpr ⟨h, hg⟩
theorem lw_goodIn {ws : List Cond} (h : ∀ w ∈ ws, w ∈ lw_tbg) : GoodIn lw_tbg ws := fun w hw => ⟨h w hw, good_of_word (List.mem_filter.mp (h w hw)).2⟩
theorem cl_all : ∀ r ∈ vwCl, (u_ws r.1 r.2.1 r.2.2).all (fun w => decide (w ∈ lw_tbl) && goodWord w) = true := by decide +kernel
theorem cl_in {ci : Nat} {r : vw_C} (h : vwCl[ci]? = some r) : ∀ w ∈ u_ws r.1 r.2.1 r.2.2, w ∈ lw_tbg := fun w hw => by
  have h1 := List.all_eq_true.mp (cl_all r (List.mem_of_getElem? h)) w hw
  simp only [Bool.and_eq_true, decide_eq_true_eq] at h1
  exact tg_ h1.1 h1.2
theorem cl_ty : ∀ r ∈ vwCl, ∀ k, k < r.2.2 → parseFieldDescriptor (r.2.1 k).2.2.1 = some ((parseFieldDescriptor (r.2.1 k).2.2.1).getD .int) := by decide +kernel
theorem cl_nm : ∀ r ∈ vwCl, ∀ a, a < r.2.2 → ∀ b, b < r.2.2 → a ≠ b → (r.2.1 a).2.1 ≠ (r.2.1 b).2.1 := by decide +kernel
def fl_ok (own : String) (idx ci k kk : Nat) : Bool := match vwCl[ci]? with
  | none => false
  | some r => decide (k < r.2.2) && (decide (r.2.2 = nf_ ci) && (decide (kd_ ci k = kk) && decide (Cond.fieldLink own idx (r.2.1 k).1 (r.2.1 k).2.1 (r.2.1 k).2.2.1 ∈ lw_tbl)))
theorem fl_spec {own : String} {idx ci k kk : Nat} (h : fl_ok own idx ci k kk = true) : ∃ r : vw_C, vwCl[ci]? = some r ∧ k < r.2.2 ∧ r.2.2 = nf_ ci ∧ kd_ ci k = kk ∧ Cond.fieldLink own idx (r.2.1 k).1 (r.2.1 k).2.1 (r.2.1 k).2.2.1 ∈ lw_tbl := by
  unfold fl_ok at h
  split at h
  · cases h
  · next r hr =>
    simp only [Bool.and_eq_true, decide_eq_true_eq] at h
    exact ⟨r, hr, h.1, h.2.1, h.2.2.1, h.2.2.2⟩
def fq_ok (own : String) (idx ci k : Nat) (ty : FieldType) (fin : Bool) : Bool := match vwCl[ci]? with
  | none => false
  | some r => decide (k < r.2.2) && (decide (r.2.2 = nf_ ci) && (decide (parseFieldDescriptor (r.2.1 k).2.2.1 = some ty) && (decide (Cond.fieldLink own idx (r.2.1 k).1 (r.2.1 k).2.1 (r.2.1 k).2.2.1 ∈ lw_tbl) && (decide ((r.2.1 k).2.2.2 = fin) && (decide (fin = false) || decide ((r.2.1 k).1 = own))))))
theorem fq_spec {own : String} {idx ci k : Nat} {ty : FieldType} {fin : Bool} (h : fq_ok own idx ci k ty fin = true) : ∃ r : vw_C, vwCl[ci]? = some r ∧ k < r.2.2 ∧ r.2.2 = nf_ ci ∧ parseFieldDescriptor (r.2.1 k).2.2.1 = some ty ∧ Cond.fieldLink own idx (r.2.1 k).1 (r.2.1 k).2.1 (r.2.1 k).2.2.1 ∈ lw_tbl ∧ (r.2.1 k).2.2.2 = fin ∧ (fin = true → (r.2.1 k).1 = own) := by
  unfold fq_ok at h
  split at h
  · cases h
  · next r hr =>
    simp only [Bool.and_eq_true, decide_eq_true_eq, Bool.or_eq_true] at h
    obtain ⟨a1, a2, a3, a4, a5, a6⟩ := h
    refine ⟨r, hr, a1, a2, a3, a4, a5, fun hf => ?_⟩
    rcases a6 with q | q
    · rw [hf] at q
      cases q
    · exact q
/-! THE JUDGEMENT -/
abbrev Mi_ : Type := MethodName × ByteArray × Nat × Option FieldType
def Rm_ (d mc ms : Nat) : Room := { frames := d, cells := mc, slots := ms, locals := 43 * d }
def Bd_ (X : Cx_) (mi : Mi_) (p : Program) (s : State) (m : MethodId) (args : Array Value) (meth : Method) (c : Code) : Prop :=
  p.tables.exec = Jvm.exec ∧ c.code = mi.2.1 ∧ meth.sig.returnType = mi.2.2.2 ∧ c.maxLocals = mi.2.2.1 ∧ s.vm.findClass mi.1.cls = some m.cls ∧ (∀ w ∈ lw_tbg, w.before args s = true) ∧ meth.locks = false ∧ meth.name = mi.1.name ∧ K_x X s
def Qp_ (X : Cx_) (post : Option Sm → Mm → Prop) : Array Value → State → Outcome → State → Prop := fun _ st o t => (∃ (r : Option Sm) (M : Mm), o = .returned (r.map tv_) ∧ post r M ∧ hp_ X M t.heap) ∧ va_F (A_x X) st t
def lm_ (lv : List (Nat × Sm)) : List (Nat × Value) := lv.map fun q => (q.1, tv_ q.2)
def VV (X : Cx_) (mi : Mi_) (R : Room) (post : Option Sm → Mm → Prop) (pc : Nat) (lv : List (Nat × Sm)) (st : List Sm) (M : Mm) (k n : Nat) : Prop :=
  ∀ (p : Program) (e : Env) (s : State) (m : MethodId) (args : Array Value) (below : List Frame) (meth : Method) (c : Code) (H : Heap) (locs : List Loc) (ls : Array Slot),
    Bd_ X mi p s m args meth c → lv_has ls mi.2.2.1 (lm_ lv) → hp_ X M H → va_S (A_x X) s.heap H locs →
    W p X.1 e R s m args below meth c H locs k n (MQ below (Qp_ X post) args s R.cells R.slots (A_x X)) (F0 m pc ls (st.map tv_))
def wm_ (mj : Mi_) : List Cond := Cond.code mj.1 mj.2.1 mj.2.2.1 mj.2.2.2 :: lw_tbg
def CT (X : Cx_) (mj : Mi_) (R : Room) (av : List Sm) (M : Mm) (post : Option Sm → Mm → Prop) : Prop :=
  Met X.1 mj.1 (wm_ mj) R (va_Pc (av.map tv_) (fun U => hp_ X M U.heap ∧ K_x X U)) (Qp_ X post) R.cells R.slots (A_x X)
def ar_ : Nat → List Sm → List (Nat × Sm)
  | _, [] => []
  | i, v :: vs => (i, v) :: ar_ (if lg2_ v then i + 2 else i + 1) vs
def ln_ : List Sm → Nat
  | [] => 0
  | v :: vs => (if lg2_ v then 2 else 1) + ln_ vs
theorem ar_eq : ∀ (i : Nat) (av : List Sm), lv_args i (av.map tv_) = lm_ (ar_ i av)
  | _, [] => rfl
  | i, v :: vs => by
    show (i, tv_ v) :: lv_args (if (tv_ v).category = 2 then i + 2 else i + 1) (vs.map tv_) = (i, tv_ v) :: lm_ (ar_ (if lg2_ v then i + 2 else i + 1) vs)
    rw [ar_eq, tv_cat]
    cases lg2_ v <;> rfl
theorem ln_eq : ∀ (av : List Sm), (lg_sl (av.map tv_)).length = ln_ av
  | [] => rfl
  | v :: vs => by
    have h := ln_eq vs
    show ((if (tv_ v).category = 2 then [Slot.val (tv_ v), .second] else [Slot.val (tv_ v)]) ++ lg_sl (vs.map tv_)).length = (if lg2_ v then 2 else 1) + ln_ vs
    rw [List.length_append, h, tv_cat]
    cases lg2_ v <;> rfl
theorem CT.of {X : Cx_} {mj : Mi_} {R : Room} {av : List Sm} {M : Mm} {post : Option Sm → Mm → Prop} (hy : plainName mj.1.cls = true) (hn : ln_ av ≤ mj.2.2.1) (h : VV X mj R post 0 (ar_ 0 av) [] M 0 0) : CT X mj R av M post := by
  refine Met.ofW (cc := mj.2.1) (maxL := mj.2.2.1) (ret := mj.2.2.2) hy rfl ?_
  intro p e s m args below meth c s₁ B hml hv
  obtain ⟨rfl, hP, hK⟩ := hv
  have hts := atoms_spec (ws := wm_ mj) B.pre
  have hl := lv_entry (av.map tv_) (n := mj.2.2.1) (by rw [ln_eq]; exact hn)
  rw [lg_entry_eq]
  rw [ar_eq] at hl
  exact h p e s m _ below meth c s.heap [] _ ⟨B.exec, B.bytes, B.returns, hml, findClass_of_methodNamed B.named, fun w hw => hts w (List.mem_cons_of_mem _ hw), B.notSynchronized, (name_of_methodNamed B.named B.method).1, hK⟩ hl hP va_S.rf
/-! answers by their kind -/
def pI_ (post : Int32 → Mm → Prop) : Option Sm → Mm → Prop
  | some (.inl v), M => post v M
  | _, _ => False
def pL_ (post : Int64 → Mm → Prop) : Option Sm → Mm → Prop
  | some (.inr (.inl v)), M => post v M
  | _, _ => False
def pR_ (post : Option Nat → Mm → Prop) : Option Sm → Mm → Prop
  | some (.inr (.inr v)), M => post v M
  | _, _ => False
def pV_ (post : Mm → Prop) : Option Sm → Mm → Prop
  | none, M => post M
  | _, _ => False
end
section
section RU
variable {X : Cx_} {mi : Mi_} {R : Room} {post : Option Sm → Mm → Prop} {pc : Nat} {lv : List (Nat × Sm)} {st : List Sm} {M : Mm} {k n : Nat}
theorem lm_at {ls : Array Slot} {nL : Nat} {lv : List (Nat × Sm)} (h : lv_has ls nL (lm_ lv)) (j : Nat) {i : Nat} {v : Sm} (hk : lv[j]? = some (i, v)) : ls[i]? = some (.val (tv_ v)) := by
  refine lv_at h j (i := i) (v := tv_ v) ?_
  unfold lm_
  rw [List.getElem?_map, hk]
  rfl
theorem lm_sub {ls : Array Slot} {nL : Nat} {lv lv' : List (Nat × Sm)} (h : lv_has ls nL (lm_ lv)) (hs : ∀ q ∈ lv', q ∈ lv) : lv_has ls nL (lm_ lv') := by
  refine ⟨h.1, h.2.1, fun q hq => ?_⟩
  obtain ⟨x, hx, rfl⟩ := List.mem_map.mp hq
  exact h.2.2 _ (List.mem_map.mpr ⟨x, hs x hx, rfl⟩)
theorem vv_sub (lv' : List (Nat × Sm)) (ks : List Nat) (hs : ks.filterMap (fun j => lv[j]?) = lv') (K : VV X mi R post pc lv' st M k n) : VV X mi R post pc lv st M k n :=
  fun p e s m args below meth c H locs ls B hl hh hS => K p e s m args below meth c H locs ls B (lm_sub hl (fun q hq => by
    rw [← hs] at hq
    obtain ⟨j, -, hj⟩ := List.mem_filterMap.mp hq
    exact List.mem_of_getElem? hj)) hh hS
theorem vv_widen (k' n' : Nat) (h1 : k ≤ k') (h2 : n ≤ n') (K : VV X mi R post pc lv st M k' n') : VV X mi R post pc lv st M k n :=
  fun p e s m args below meth c H locs ls B hl hh hS => W.widen h1 h2 (K p e s m args below meth c H locs ls B hl hh hS)
def rm1_ (i : Nat) (lv : List (Nat × Sm)) : List (Nat × Sm) := lv.filter (fun q => !(q.1 == i) && !(q.1 + 1 == i && lg2_ q.2))
def rm2_ (i : Nat) (lv : List (Nat × Sm)) : List (Nat × Sm) := lv.filter (fun q => !(q.1 == i) && (!(q.1 == i + 1) && !(q.1 + 1 == i && lg2_ q.2)))
theorem lg2_cat (v : Sm) : ((tv_ v).category == 2) = lg2_ v := by
  rw [tv_cat]
  cases lg2_ v <;> rfl
theorem rm1_eq (i : Nat) (lv : List (Nat × Sm)) : (lm_ lv).filter (fun q => !(q.1 == i) && !(q.1 + 1 == i && q.2.category == 2)) = lm_ (rm1_ i lv) := by
  unfold lm_ rm1_
  rw [List.filter_map]
  congr 1
  apply List.filter_congr
  intro q _
  simp only [Function.comp, lg2_cat]
theorem rm2_eq (i : Nat) (lv : List (Nat × Sm)) : (lm_ lv).filter (fun q => !(q.1 == i) && (!(q.1 == i + 1) && !(q.1 + 1 == i && q.2.category == 2))) = lm_ (rm2_ i lv) := by
  unfold lm_ rm2_
  rw [List.filter_map]
  congr 1
  apply List.filter_congr
  intro q _
  simp only [Function.comp, lg2_cat]

theorem vv_iconst {z : Int} (v : Int32) (hd : decode mi.2.1 pc = .ok (.iconst z, 1)) (hv : Int32.ofInt z = v) (K : VV X mi R post (pc + 1) lv (.inl v :: st) M k n) : VV X mi R post pc lv st M k n :=
  fun p e s m args below meth c H locs ls B hl hh hS => lv_iconst B.1 B.2.1 hd hv (K p e s m args below meth c H locs ls B hl hh hS)
theorem vv_bipush {z : Int} (v : Int32) (hd : decode mi.2.1 pc = .ok (.bipush z, 2)) (hv : (Int8.ofInt z).toInt32 = v) (K : VV X mi R post (pc + 2) lv (.inl v :: st) M k n) : VV X mi R post pc lv st M k n :=
  fun p e s m args below meth c H locs ls B hl hh hS => lv_bipush B.1 B.2.1 hd hv (K p e s m args below meth c H locs ls B hl hh hS)
theorem vv_sipush {z : Int} (v : Int32) (hd : decode mi.2.1 pc = .ok (.sipush z, 3)) (hv : (Int16.ofInt z).toInt32 = v) (K : VV X mi R post (pc + 3) lv (.inl v :: st) M k n) : VV X mi R post pc lv st M k n :=
  fun p e s m args below meth c H locs ls B hl hh hS => lv_sipush B.1 B.2.1 hd hv (K p e s m args below meth c H locs ls B hl hh hS)
theorem vv_lconst {z : Fin 2} (v : Int64) (hd : decode mi.2.1 pc = .ok (.lconst z, 1)) (hv : Int64.ofNat (z : Nat) = v) (K : VV X mi R post (pc + 1) lv (.inr (.inl v) :: st) M k n) : VV X mi R post pc lv st M k n :=
  fun p e s m args below meth c H locs ls B hl hh hS => lv_lconst B.1 B.2.1 hd hv (K p e s m args below meth c H locs ls B hl hh hS)
theorem vv_null (hd : decode mi.2.1 pc = .ok (.aconst_null, 1)) (K : VV X mi R post (pc + 1) lv (.inr (.inr none) :: st) M k n) : VV X mi R post pc lv st M k n :=
  fun p e s m args below meth c H locs ls B hl hh hS => lv_null B.1 B.2.1 hd (K p e s m args below meth c H locs ls B hl hh hS)
theorem vv_ldc2 {idx : Nat} (v : Int64) (hd : decode mi.2.1 pc = .ok (.ldc2_w idx, 3)) (hw : decide (Cond.constantLong mi.1.cls idx v ∈ lw_tbl) = true) (K : VV X mi R post (pc + 3) lv (.inr (.inl v) :: st) M k n) : VV X mi R post pc lv st M k n :=
  fun p e s m args below meth c H locs ls B hl hh hS => lv_ldc2 B.1 B.2.1 B.2.2.2.2.1 (B.2.2.2.2.2.1 _ (tg_ (of_decide_eq_true hw) rfl)) hd (K p e s m args below meth c H locs ls B hl hh hS)
theorem vv_ldcw {idx : Nat} (v : Int32) (hd : decode mi.2.1 pc = .ok (.ldc_w idx, 3)) (hw : decide (Cond.constant mi.1.cls idx v ∈ lw_tbl) = true) (K : VV X mi R post (pc + 3) lv (.inl v :: st) M k n) : VV X mi R post pc lv st M k n :=
  fun p e s m args below meth c H locs ls B hl hh hS => lv_ldcw B.1 B.2.1 B.2.2.2.2.1 (B.2.2.2.2.2.1 _ (tg_ (of_decide_eq_true hw) rfl)) hd (K p e s m args below meth c H locs ls B hl hh hS)
theorem vv_ldc {idx : Nat} (v : Int32) (hd : decode mi.2.1 pc = .ok (.ldc idx, 2)) (hw : decide (Cond.constant mi.1.cls idx v ∈ lw_tbl) = true) (K : VV X mi R post (pc + 2) lv (.inl v :: st) M k n) : VV X mi R post pc lv st M k n :=
  fun p e s m args below meth c H locs ls B hl hh hS => lv_ldc B.1 B.2.1 B.2.2.2.2.1 (B.2.2.2.2.2.1 _ (tg_ (of_decide_eq_true hw) rfl)) hd (K p e s m args below meth c H locs ls B hl hh hS)
theorem vv_iload_n {z : Fin 4} {i : Nat} {x : Int32} (j : Nat) (hd : decode mi.2.1 pc = .ok (.iload_n z, 1)) (hi : (z : Nat) = i) (hj : lv[j]? = some (i, .inl x)) (K : VV X mi R post (pc + 1) lv (.inl x :: st) M k n) : VV X mi R post pc lv st M k n :=
  fun p e s m args below meth c H locs ls B hl hh hS => lv_iload_n B.1 B.2.1 hd hi (lm_at hl j hj) (K p e s m args below meth c H locs ls B hl hh hS)
theorem vv_iload {i : Nat} {x : Int32} (j : Nat) (hd : decode mi.2.1 pc = .ok (.iload i, 2)) (hj : lv[j]? = some (i, .inl x)) (K : VV X mi R post (pc + 2) lv (.inl x :: st) M k n) : VV X mi R post pc lv st M k n :=
  fun p e s m args below meth c H locs ls B hl hh hS => lv_iload B.1 B.2.1 hd (lm_at hl j hj) (K p e s m args below meth c H locs ls B hl hh hS)
theorem vv_lload_n {z : Fin 4} {i : Nat} {x : Int64} (j : Nat) (hd : decode mi.2.1 pc = .ok (.lload_n z, 1)) (hi : (z : Nat) = i) (hj : lv[j]? = some (i, .inr (.inl x))) (K : VV X mi R post (pc + 1) lv (.inr (.inl x) :: st) M k n) : VV X mi R post pc lv st M k n :=
  fun p e s m args below meth c H locs ls B hl hh hS => lv_lload_n B.1 B.2.1 hd hi (lm_at hl j hj) (K p e s m args below meth c H locs ls B hl hh hS)
theorem vv_lload {i : Nat} {x : Int64} (j : Nat) (hd : decode mi.2.1 pc = .ok (.lload i, 2)) (hj : lv[j]? = some (i, .inr (.inl x))) (K : VV X mi R post (pc + 2) lv (.inr (.inl x) :: st) M k n) : VV X mi R post pc lv st M k n :=
  fun p e s m args below meth c H locs ls B hl hh hS => lv_lload B.1 B.2.1 hd (lm_at hl j hj) (K p e s m args below meth c H locs ls B hl hh hS)
theorem vv_aload_n {z : Fin 4} {i : Nat} {x : Option Nat} (j : Nat) (hd : decode mi.2.1 pc = .ok (.aload_n z, 1)) (hi : (z : Nat) = i) (hj : lv[j]? = some (i, .inr (.inr x))) (K : VV X mi R post (pc + 1) lv (.inr (.inr x) :: st) M k n) : VV X mi R post pc lv st M k n := by
  intro p e s m args below meth c H locs ls B hl hh hS
  have h1 := lm_at hl j hj
  have h2 := K p e s m args below meth c H locs ls B hl hh hS
  cases x with
  | none => exact lv_aload_nN B.1 B.2.1 hd hi h1 h2
  | some a => exact lv_aload_n B.1 B.2.1 hd hi h1 h2
theorem vv_aload {i : Nat} {x : Option Nat} (j : Nat) (hd : decode mi.2.1 pc = .ok (.aload i, 2)) (hj : lv[j]? = some (i, .inr (.inr x))) (K : VV X mi R post (pc + 2) lv (.inr (.inr x) :: st) M k n) : VV X mi R post pc lv st M k n := by
  intro p e s m args below meth c H locs ls B hl hh hS
  have h1 := lm_at hl j hj
  have h2 := K p e s m args below meth c H locs ls B hl hh hS
  cases x with
  | none => exact lv_aloadN B.1 B.2.1 hd h1 h2
  | some a => exact lv_aload B.1 B.2.1 hd h1 h2
theorem vv_istore_n {z : Fin 4} {i : Nat} {x : Int32} (lv' : List (Nat × Sm)) (hd : decode mi.2.1 pc = .ok (.istore_n z, 1)) (hi : (z : Nat) = i) (hn : i < mi.2.2.1) (hl' : (i, (.inl x : Sm)) :: rm1_ i lv = lv') (K : VV X mi R post (pc + 1) lv' st M k n) : VV X mi R post pc lv (.inl x :: st) M k n :=
  fun p e s m args below meth c H locs ls B hl hh hS => lv_istore_n (lv' := lm_ lv') B.1 B.2.1 hd hi hl hn (by rw [rm1_eq, ← hl']; rfl) (fun ls' hl2 => K p e s m args below meth c H locs ls' B hl2 hh hS)
theorem vv_istore {i : Nat} {x : Int32} (lv' : List (Nat × Sm)) (hd : decode mi.2.1 pc = .ok (.istore i, 2)) (hn : i < mi.2.2.1) (hl' : (i, (.inl x : Sm)) :: rm1_ i lv = lv') (K : VV X mi R post (pc + 2) lv' st M k n) : VV X mi R post pc lv (.inl x :: st) M k n :=
  fun p e s m args below meth c H locs ls B hl hh hS => lv_istore (lv' := lm_ lv') B.1 B.2.1 hd hl hn (by rw [rm1_eq, ← hl']; rfl) (fun ls' hl2 => K p e s m args below meth c H locs ls' B hl2 hh hS)
theorem vv_lstore_n {z : Fin 4} {i : Nat} {x : Int64} (lv' : List (Nat × Sm)) (hd : decode mi.2.1 pc = .ok (.lstore_n z, 1)) (hi : (z : Nat) = i) (hn : i + 1 < mi.2.2.1) (hl' : (i, (.inr (.inl x) : Sm)) :: rm2_ i lv = lv') (K : VV X mi R post (pc + 1) lv' st M k n) : VV X mi R post pc lv (.inr (.inl x) :: st) M k n :=
  fun p e s m args below meth c H locs ls B hl hh hS => lv_lstore_n (lv' := lm_ lv') B.1 B.2.1 hd hi hl hn (by rw [rm2_eq, ← hl']; rfl) (fun ls' hl2 => K p e s m args below meth c H locs ls' B hl2 hh hS)
theorem vv_lstore {i : Nat} {x : Int64} (lv' : List (Nat × Sm)) (hd : decode mi.2.1 pc = .ok (.lstore i, 2)) (hn : i + 1 < mi.2.2.1) (hl' : (i, (.inr (.inl x) : Sm)) :: rm2_ i lv = lv') (K : VV X mi R post (pc + 2) lv' st M k n) : VV X mi R post pc lv (.inr (.inl x) :: st) M k n :=
  fun p e s m args below meth c H locs ls B hl hh hS => lv_lstore (lv' := lm_ lv') B.1 B.2.1 hd hl hn (by rw [rm2_eq, ← hl']; rfl) (fun ls' hl2 => K p e s m args below meth c H locs ls' B hl2 hh hS)
theorem vv_astore_n {z : Fin 4} {i : Nat} {x : Option Nat} (lv' : List (Nat × Sm)) (hd : decode mi.2.1 pc = .ok (.astore_n z, 1)) (hi : (z : Nat) = i) (hn : i < mi.2.2.1) (hl' : (i, (.inr (.inr x) : Sm)) :: rm1_ i lv = lv') (K : VV X mi R post (pc + 1) lv' st M k n) : VV X mi R post pc lv (.inr (.inr x) :: st) M k n := by
  intro p e s m args below meth c H locs ls B hl hh hS
  cases x with
  | none => exact lv_astore_nN (lv' := lm_ lv') B.1 B.2.1 hd hi hl hn (by rw [rm1_eq, ← hl']; rfl) (fun ls' hl2 => K p e s m args below meth c H locs ls' B hl2 hh hS)
  | some a => exact lv_astore_n (lv' := lm_ lv') B.1 B.2.1 hd hi hl hn (by rw [rm1_eq, ← hl']; rfl) (fun ls' hl2 => K p e s m args below meth c H locs ls' B hl2 hh hS)
theorem vv_astore {i : Nat} {x : Option Nat} (lv' : List (Nat × Sm)) (hd : decode mi.2.1 pc = .ok (.astore i, 2)) (hn : i < mi.2.2.1) (hl' : (i, (.inr (.inr x) : Sm)) :: rm1_ i lv = lv') (K : VV X mi R post (pc + 2) lv' st M k n) : VV X mi R post pc lv (.inr (.inr x) :: st) M k n := by
  intro p e s m args below meth c H locs ls B hl hh hS
  cases x with
  | none => exact lv_astoreN (lv' := lm_ lv') B.1 B.2.1 hd hl hn (by rw [rm1_eq, ← hl']; rfl) (fun ls' hl2 => K p e s m args below meth c H locs ls' B hl2 hh hS)
  | some a => exact lv_astore (lv' := lm_ lv') B.1 B.2.1 hd hl hn (by rw [rm1_eq, ← hl']; rfl) (fun ls' hl2 => K p e s m args below meth c H locs ls' B hl2 hh hS)
theorem vv_iinc {i : Nat} {z : Int} {x : Int32} (v : Int32) (j : Nat) (lv' : List (Nat × Sm)) (hd : decode mi.2.1 pc = .ok (.iinc i z, 3)) (hj : lv[j]? = some (i, .inl x)) (hv : x + Int32.ofInt z = v) (hn : i < mi.2.2.1) (hl' : (i, (.inl v : Sm)) :: rm1_ i lv = lv') (K : VV X mi R post (pc + 3) lv' st M k n) : VV X mi R post pc lv st M k n :=
  fun p e s m args below meth c H locs ls B hl hh hS => lv_iinc (lv' := lm_ lv') (k := j) (x := x) (v := v) B.1 B.2.1 hd hl (by unfold lm_; rw [List.getElem?_map, hj]; rfl) hv hn (by rw [rm1_eq, ← hl']; rfl) (fun ls' hl2 => K p e s m args below meth c H locs ls' B hl2 hh hS)
theorem vv_iadd {x y : Int32} (hd : decode mi.2.1 pc = .ok (.iadd, 1)) (K : VV X mi R post (pc + 1) lv (.inl (x + y) :: st) M k n) : VV X mi R post pc lv (.inl y :: .inl x :: st) M k n :=
  fun p e s m args below meth c H locs ls B hl hh hS => lv_iadd B.1 B.2.1 hd (K p e s m args below meth c H locs ls B hl hh hS)
theorem vv_isub {x y : Int32} (hd : decode mi.2.1 pc = .ok (.isub, 1)) (K : VV X mi R post (pc + 1) lv (.inl (x - y) :: st) M k n) : VV X mi R post pc lv (.inl y :: .inl x :: st) M k n :=
  fun p e s m args below meth c H locs ls B hl hh hS => lv_isub B.1 B.2.1 hd (K p e s m args below meth c H locs ls B hl hh hS)
theorem vv_imul {x y : Int32} (hd : decode mi.2.1 pc = .ok (.imul, 1)) (K : VV X mi R post (pc + 1) lv (.inl (x * y) :: st) M k n) : VV X mi R post pc lv (.inl y :: .inl x :: st) M k n :=
  fun p e s m args below meth c H locs ls B hl hh hS => lv_imul B.1 B.2.1 hd (K p e s m args below meth c H locs ls B hl hh hS)
theorem vv_iand {x y : Int32} (hd : decode mi.2.1 pc = .ok (.iand, 1)) (K : VV X mi R post (pc + 1) lv (.inl (x &&& y) :: st) M k n) : VV X mi R post pc lv (.inl y :: .inl x :: st) M k n :=
  fun p e s m args below meth c H locs ls B hl hh hS => lv_iand B.1 B.2.1 hd (K p e s m args below meth c H locs ls B hl hh hS)
theorem vv_ior {x y : Int32} (hd : decode mi.2.1 pc = .ok (.ior, 1)) (K : VV X mi R post (pc + 1) lv (.inl (x ||| y) :: st) M k n) : VV X mi R post pc lv (.inl y :: .inl x :: st) M k n :=
  fun p e s m args below meth c H locs ls B hl hh hS => lv_ior B.1 B.2.1 hd (K p e s m args below meth c H locs ls B hl hh hS)
theorem vv_ixor {x y : Int32} (hd : decode mi.2.1 pc = .ok (.ixor, 1)) (K : VV X mi R post (pc + 1) lv (.inl (x ^^^ y) :: st) M k n) : VV X mi R post pc lv (.inl y :: .inl x :: st) M k n :=
  fun p e s m args below meth c H locs ls B hl hh hS => lv_ixor B.1 B.2.1 hd (K p e s m args below meth c H locs ls B hl hh hS)
theorem vv_ishl {x y : Int32} (hd : decode mi.2.1 pc = .ok (.ishl, 1)) (K : VV X mi R post (pc + 1) lv (.inl (x <<< (y &&& 31)) :: st) M k n) : VV X mi R post pc lv (.inl y :: .inl x :: st) M k n :=
  fun p e s m args below meth c H locs ls B hl hh hS => lv_ishl B.1 B.2.1 hd (K p e s m args below meth c H locs ls B hl hh hS)
theorem vv_ishr {x y : Int32} (hd : decode mi.2.1 pc = .ok (.ishr, 1)) (K : VV X mi R post (pc + 1) lv (.inl (x >>> (y &&& 31)) :: st) M k n) : VV X mi R post pc lv (.inl y :: .inl x :: st) M k n :=
  fun p e s m args below meth c H locs ls B hl hh hS => lv_ishr B.1 B.2.1 hd (K p e s m args below meth c H locs ls B hl hh hS)
theorem vv_ladd {x y : Int64} (hd : decode mi.2.1 pc = .ok (.ladd, 1)) (K : VV X mi R post (pc + 1) lv (.inr (.inl (x + y)) :: st) M k n) : VV X mi R post pc lv (.inr (.inl y) :: .inr (.inl x) :: st) M k n :=
  fun p e s m args below meth c H locs ls B hl hh hS => lv_ladd B.1 B.2.1 hd (K p e s m args below meth c H locs ls B hl hh hS)
theorem vv_lsub {x y : Int64} (hd : decode mi.2.1 pc = .ok (.lsub, 1)) (K : VV X mi R post (pc + 1) lv (.inr (.inl (x - y)) :: st) M k n) : VV X mi R post pc lv (.inr (.inl y) :: .inr (.inl x) :: st) M k n :=
  fun p e s m args below meth c H locs ls B hl hh hS => lv_lsub B.1 B.2.1 hd (K p e s m args below meth c H locs ls B hl hh hS)
theorem vv_lmul {x y : Int64} (hd : decode mi.2.1 pc = .ok (.lmul, 1)) (K : VV X mi R post (pc + 1) lv (.inr (.inl (x * y)) :: st) M k n) : VV X mi R post pc lv (.inr (.inl y) :: .inr (.inl x) :: st) M k n :=
  fun p e s m args below meth c H locs ls B hl hh hS => lv_lmul B.1 B.2.1 hd (K p e s m args below meth c H locs ls B hl hh hS)
theorem vv_land {x y : Int64} (hd : decode mi.2.1 pc = .ok (.land, 1)) (K : VV X mi R post (pc + 1) lv (.inr (.inl (x &&& y)) :: st) M k n) : VV X mi R post pc lv (.inr (.inl y) :: .inr (.inl x) :: st) M k n :=
  fun p e s m args below meth c H locs ls B hl hh hS => lv_land B.1 B.2.1 hd (K p e s m args below meth c H locs ls B hl hh hS)
theorem vv_lor {x y : Int64} (hd : decode mi.2.1 pc = .ok (.lor, 1)) (K : VV X mi R post (pc + 1) lv (.inr (.inl (x ||| y)) :: st) M k n) : VV X mi R post pc lv (.inr (.inl y) :: .inr (.inl x) :: st) M k n :=
  fun p e s m args below meth c H locs ls B hl hh hS => lv_lor B.1 B.2.1 hd (K p e s m args below meth c H locs ls B hl hh hS)
theorem vv_lxor {x y : Int64} (hd : decode mi.2.1 pc = .ok (.lxor, 1)) (K : VV X mi R post (pc + 1) lv (.inr (.inl (x ^^^ y)) :: st) M k n) : VV X mi R post pc lv (.inr (.inl y) :: .inr (.inl x) :: st) M k n :=
  fun p e s m args below meth c H locs ls B hl hh hS => lv_lxor B.1 B.2.1 hd (K p e s m args below meth c H locs ls B hl hh hS)
theorem vv_idiv {x y : Int32} (hne : ¬ y = 0) (hd : decode mi.2.1 pc = .ok (.idiv, 1)) (K : VV X mi R post (pc + 1) lv (.inl (x / y) :: st) M k n) : VV X mi R post pc lv (.inl (y) :: .inl (x) :: st) M k n :=
  fun p e s m args below meth c H locs ls B hl hh hS => lv_idiv B.1 B.2.1 hd hne (K p e s m args below meth c H locs ls B hl hh hS)
theorem vv_irem {x y : Int32} (hne : ¬ y = 0) (hd : decode mi.2.1 pc = .ok (.irem, 1)) (K : VV X mi R post (pc + 1) lv (.inl (x - x / y * y) :: st) M k n) : VV X mi R post pc lv (.inl (y) :: .inl (x) :: st) M k n :=
  fun p e s m args below meth c H locs ls B hl hh hS => lv_irem B.1 B.2.1 hd hne (K p e s m args below meth c H locs ls B hl hh hS)
theorem vv_ldiv {x y : Int64} (hne : ¬ y = 0) (hd : decode mi.2.1 pc = .ok (.ldiv, 1)) (K : VV X mi R post (pc + 1) lv (.inr (.inl (x / y)) :: st) M k n) : VV X mi R post pc lv (.inr (.inl (y)) :: .inr (.inl (x)) :: st) M k n :=
  fun p e s m args below meth c H locs ls B hl hh hS => lv_ldiv B.1 B.2.1 hd hne (K p e s m args below meth c H locs ls B hl hh hS)
theorem vv_lrem {x y : Int64} (hne : ¬ y = 0) (hd : decode mi.2.1 pc = .ok (.lrem, 1)) (K : VV X mi R post (pc + 1) lv (.inr (.inl (x - x / y * y)) :: st) M k n) : VV X mi R post pc lv (.inr (.inl (y)) :: .inr (.inl (x)) :: st) M k n :=
  fun p e s m args below meth c H locs ls B hl hh hS => lv_lrem B.1 B.2.1 hd hne (K p e s m args below meth c H locs ls B hl hh hS)
theorem vv_iushr {x y : Int32} (hd : decode mi.2.1 pc = .ok (.iushr, 1)) (K : VV X mi R post (pc + 1) lv (.inl ((x.toUInt32 >>> (y.toUInt32 &&& Int32.toUInt32 31)).toInt32) :: st) M k n) : VV X mi R post pc lv (.inl y :: .inl x :: st) M k n :=
  fun p e s m args below meth c H locs ls B hl hh hS => lv_iushr B.1 B.2.1 hd rfl (K p e s m args below meth c H locs ls B hl hh hS)
theorem vv_lushr {x : Int64} {y : Int32} (hd : decode mi.2.1 pc = .ok (.lushr, 1)) (K : VV X mi R post (pc + 1) lv (.inr (.inl ((x.toUInt64 >>> (y.toInt64.toUInt64 &&& Int64.toUInt64 63)).toInt64)) :: st) M k n) : VV X mi R post pc lv (.inl y :: .inr (.inl x) :: st) M k n :=
  fun p e s m args below meth c H locs ls B hl hh hS => lv_lushr B.1 B.2.1 hd rfl (K p e s m args below meth c H locs ls B hl hh hS)
theorem vv_lshl {x : Int64} {y : Int32} (hd : decode mi.2.1 pc = .ok (.lshl, 1)) (K : VV X mi R post (pc + 1) lv (.inr (.inl (x <<< (y.toInt64 &&& 63))) :: st) M k n) : VV X mi R post pc lv (.inl y :: .inr (.inl x) :: st) M k n :=
  fun p e s m args below meth c H locs ls B hl hh hS => lv_lshl B.1 B.2.1 hd rfl (K p e s m args below meth c H locs ls B hl hh hS)
theorem vv_lshr {x : Int64} {y : Int32} (hd : decode mi.2.1 pc = .ok (.lshr, 1)) (K : VV X mi R post (pc + 1) lv (.inr (.inl (x >>> (y.toInt64 &&& 63))) :: st) M k n) : VV X mi R post pc lv (.inl y :: .inr (.inl x) :: st) M k n :=
  fun p e s m args below meth c H locs ls B hl hh hS => lv_lshr B.1 B.2.1 hd rfl (K p e s m args below meth c H locs ls B hl hh hS)
theorem vv_i2l {x : Int32} (hd : decode mi.2.1 pc = .ok (.i2l, 1)) (K : VV X mi R post (pc + 1) lv (.inr (.inl x.toInt64) :: st) M k n) : VV X mi R post pc lv (.inl x :: st) M k n :=
  fun p e s m args below meth c H locs ls B hl hh hS => lv_i2l B.1 B.2.1 hd rfl (K p e s m args below meth c H locs ls B hl hh hS)
theorem vv_l2i {x : Int64} (hd : decode mi.2.1 pc = .ok (.l2i, 1)) (K : VV X mi R post (pc + 1) lv (.inl x.toInt32 :: st) M k n) : VV X mi R post pc lv (.inr (.inl x) :: st) M k n :=
  fun p e s m args below meth c H locs ls B hl hh hS => lv_l2i B.1 B.2.1 hd rfl (K p e s m args below meth c H locs ls B hl hh hS)
theorem vv_lcmp {x y : Int64} (hd : decode mi.2.1 pc = .ok (.lcmp, 1)) (K : VV X mi R post (pc + 1) lv (.inl (lg_cmp x y) :: st) M k n) : VV X mi R post pc lv (.inr (.inl y) :: .inr (.inl x) :: st) M k n :=
  fun p e s m args below meth c H locs ls B hl hh hS => W.lcmp B.1 B.2.1 hd (K p e s m args below meth c H locs ls B hl hh hS)
theorem ct1_ {v : Sm} (h : lg2_ v = false) : (tv_ v).category = 1 := by rw [tv_cat, h]; rfl
theorem vv_dup {v : Sm} (hd : decode mi.2.1 pc = .ok (.dup, 1)) (hv : lg2_ v = false) (K : VV X mi R post (pc + 1) lv (v :: v :: st) M k n) : VV X mi R post pc lv (v :: st) M k n :=
  fun p e s m args below meth c H locs ls B hl hh hS => lv_dup B.1 B.2.1 hd (ct1_ hv) (K p e s m args below meth c H locs ls B hl hh hS)
theorem vv_pop {v : Sm} (hd : decode mi.2.1 pc = .ok (.pop, 1)) (hv : lg2_ v = false) (K : VV X mi R post (pc + 1) lv st M k n) : VV X mi R post pc lv (v :: st) M k n :=
  fun p e s m args below meth c H locs ls B hl hh hS => lv_pop B.1 B.2.1 hd (ct1_ hv) (K p e s m args below meth c H locs ls B hl hh hS)
theorem vv_dup_x1 {v w : Sm} (hd : decode mi.2.1 pc = .ok (.dup_x1, 1)) (hv : lg2_ v = false) (hw : lg2_ w = false) (K : VV X mi R post (pc + 1) lv (v :: w :: v :: st) M k n) : VV X mi R post pc lv (v :: w :: st) M k n :=
  fun p e s m args below meth c H locs ls B hl hh hS => lv_dup_x1 B.1 B.2.1 hd (ct1_ hv) (ct1_ hw) (K p e s m args below meth c H locs ls B hl hh hS)
theorem vv_dup2 {v w : Sm} (hd : decode mi.2.1 pc = .ok (.dup2, 1)) (hv : lg2_ v = false) (hw : lg2_ w = false) (K : VV X mi R post (pc + 1) lv (v :: w :: v :: w :: st) M k n) : VV X mi R post pc lv (v :: w :: st) M k n :=
  fun p e s m args below meth c H locs ls B hl hh hS => lv_dup2_11 B.1 B.2.1 hd (ct1_ hv) (ct1_ hw) (K p e s m args below meth c H locs ls B hl hh hS)
theorem vv_if_eq {x : Int32} {off : Int} (tgt : Nat) (hd : decode mi.2.1 pc = .ok (.ifCond .eq off, 3)) (ht : (pc : Int) + off = (tgt : Int)) (B1 : x = 0 → VV X mi R post tgt lv st M k n) (B2 : ¬ x = 0 → VV X mi R post (pc + 3) lv st M k n) : VV X mi R post pc lv (.inl x :: st) M k n :=
  fun p e s m args below meth c H locs ls B hl hh hS => lv_if_eq B.1 B.2.1 hd ht (fun z => B1 z p e s m args below meth c H locs ls B hl hh hS) (fun z => B2 z p e s m args below meth c H locs ls B hl hh hS)
theorem vv_icmp_eq {x y : Int32} {off : Int} (tgt : Nat) (hd : decode mi.2.1 pc = .ok (.if_icmp .eq off, 3)) (ht : (pc : Int) + off = (tgt : Int)) (B1 : x = y → VV X mi R post tgt lv st M k n) (B2 : ¬ x = y → VV X mi R post (pc + 3) lv st M k n) : VV X mi R post pc lv (.inl y :: .inl x :: st) M k n :=
  fun p e s m args below meth c H locs ls B hl hh hS => lv_icmp_eq B.1 B.2.1 hd ht (fun z => B1 z p e s m args below meth c H locs ls B hl hh hS) (fun z => B2 z p e s m args below meth c H locs ls B hl hh hS)
theorem vv_if_ne {x : Int32} {off : Int} (tgt : Nat) (hd : decode mi.2.1 pc = .ok (.ifCond .ne off, 3)) (ht : (pc : Int) + off = (tgt : Int)) (B1 : ¬ x = 0 → VV X mi R post tgt lv st M k n) (B2 : x = 0 → VV X mi R post (pc + 3) lv st M k n) : VV X mi R post pc lv (.inl x :: st) M k n :=
  fun p e s m args below meth c H locs ls B hl hh hS => lv_if_ne B.1 B.2.1 hd ht (fun z => B1 z p e s m args below meth c H locs ls B hl hh hS) (fun z => B2 z p e s m args below meth c H locs ls B hl hh hS)
theorem vv_icmp_ne {x y : Int32} {off : Int} (tgt : Nat) (hd : decode mi.2.1 pc = .ok (.if_icmp .ne off, 3)) (ht : (pc : Int) + off = (tgt : Int)) (B1 : ¬ x = y → VV X mi R post tgt lv st M k n) (B2 : x = y → VV X mi R post (pc + 3) lv st M k n) : VV X mi R post pc lv (.inl y :: .inl x :: st) M k n :=
  fun p e s m args below meth c H locs ls B hl hh hS => lv_icmp_ne B.1 B.2.1 hd ht (fun z => B1 z p e s m args below meth c H locs ls B hl hh hS) (fun z => B2 z p e s m args below meth c H locs ls B hl hh hS)
theorem vv_if_lt {x : Int32} {off : Int} (tgt : Nat) (hd : decode mi.2.1 pc = .ok (.ifCond .lt off, 3)) (ht : (pc : Int) + off = (tgt : Int)) (B1 : x < 0 → VV X mi R post tgt lv st M k n) (B2 : ¬ x < 0 → VV X mi R post (pc + 3) lv st M k n) : VV X mi R post pc lv (.inl x :: st) M k n :=
  fun p e s m args below meth c H locs ls B hl hh hS => lv_if_lt B.1 B.2.1 hd ht (fun z => B1 z p e s m args below meth c H locs ls B hl hh hS) (fun z => B2 z p e s m args below meth c H locs ls B hl hh hS)
theorem vv_icmp_lt {x y : Int32} {off : Int} (tgt : Nat) (hd : decode mi.2.1 pc = .ok (.if_icmp .lt off, 3)) (ht : (pc : Int) + off = (tgt : Int)) (B1 : x < y → VV X mi R post tgt lv st M k n) (B2 : ¬ x < y → VV X mi R post (pc + 3) lv st M k n) : VV X mi R post pc lv (.inl y :: .inl x :: st) M k n :=
  fun p e s m args below meth c H locs ls B hl hh hS => lv_icmp_lt B.1 B.2.1 hd ht (fun z => B1 z p e s m args below meth c H locs ls B hl hh hS) (fun z => B2 z p e s m args below meth c H locs ls B hl hh hS)
theorem vv_if_ge {x : Int32} {off : Int} (tgt : Nat) (hd : decode mi.2.1 pc = .ok (.ifCond .ge off, 3)) (ht : (pc : Int) + off = (tgt : Int)) (B1 : 0 ≤ x → VV X mi R post tgt lv st M k n) (B2 : ¬ 0 ≤ x → VV X mi R post (pc + 3) lv st M k n) : VV X mi R post pc lv (.inl x :: st) M k n :=
  fun p e s m args below meth c H locs ls B hl hh hS => lv_if_ge B.1 B.2.1 hd ht (fun z => B1 z p e s m args below meth c H locs ls B hl hh hS) (fun z => B2 z p e s m args below meth c H locs ls B hl hh hS)
theorem vv_icmp_ge {x y : Int32} {off : Int} (tgt : Nat) (hd : decode mi.2.1 pc = .ok (.if_icmp .ge off, 3)) (ht : (pc : Int) + off = (tgt : Int)) (B1 : y ≤ x → VV X mi R post tgt lv st M k n) (B2 : ¬ y ≤ x → VV X mi R post (pc + 3) lv st M k n) : VV X mi R post pc lv (.inl y :: .inl x :: st) M k n :=
  fun p e s m args below meth c H locs ls B hl hh hS => lv_icmp_ge B.1 B.2.1 hd ht (fun z => B1 z p e s m args below meth c H locs ls B hl hh hS) (fun z => B2 z p e s m args below meth c H locs ls B hl hh hS)
theorem vv_if_gt {x : Int32} {off : Int} (tgt : Nat) (hd : decode mi.2.1 pc = .ok (.ifCond .gt off, 3)) (ht : (pc : Int) + off = (tgt : Int)) (B1 : 0 < x → VV X mi R post tgt lv st M k n) (B2 : ¬ 0 < x → VV X mi R post (pc + 3) lv st M k n) : VV X mi R post pc lv (.inl x :: st) M k n :=
  fun p e s m args below meth c H locs ls B hl hh hS => lv_if_gt B.1 B.2.1 hd ht (fun z => B1 z p e s m args below meth c H locs ls B hl hh hS) (fun z => B2 z p e s m args below meth c H locs ls B hl hh hS)
theorem vv_icmp_gt {x y : Int32} {off : Int} (tgt : Nat) (hd : decode mi.2.1 pc = .ok (.if_icmp .gt off, 3)) (ht : (pc : Int) + off = (tgt : Int)) (B1 : y < x → VV X mi R post tgt lv st M k n) (B2 : ¬ y < x → VV X mi R post (pc + 3) lv st M k n) : VV X mi R post pc lv (.inl y :: .inl x :: st) M k n :=
  fun p e s m args below meth c H locs ls B hl hh hS => lv_icmp_gt B.1 B.2.1 hd ht (fun z => B1 z p e s m args below meth c H locs ls B hl hh hS) (fun z => B2 z p e s m args below meth c H locs ls B hl hh hS)
theorem vv_if_le {x : Int32} {off : Int} (tgt : Nat) (hd : decode mi.2.1 pc = .ok (.ifCond .le off, 3)) (ht : (pc : Int) + off = (tgt : Int)) (B1 : x ≤ 0 → VV X mi R post tgt lv st M k n) (B2 : ¬ x ≤ 0 → VV X mi R post (pc + 3) lv st M k n) : VV X mi R post pc lv (.inl x :: st) M k n :=
  fun p e s m args below meth c H locs ls B hl hh hS => lv_if_le B.1 B.2.1 hd ht (fun z => B1 z p e s m args below meth c H locs ls B hl hh hS) (fun z => B2 z p e s m args below meth c H locs ls B hl hh hS)
theorem vv_icmp_le {x y : Int32} {off : Int} (tgt : Nat) (hd : decode mi.2.1 pc = .ok (.if_icmp .le off, 3)) (ht : (pc : Int) + off = (tgt : Int)) (B1 : x ≤ y → VV X mi R post tgt lv st M k n) (B2 : ¬ x ≤ y → VV X mi R post (pc + 3) lv st M k n) : VV X mi R post pc lv (.inl y :: .inl x :: st) M k n :=
  fun p e s m args below meth c H locs ls B hl hh hS => lv_icmp_le B.1 B.2.1 hd ht (fun z => B1 z p e s m args below meth c H locs ls B hl hh hS) (fun z => B2 z p e s m args below meth c H locs ls B hl hh hS)
theorem vv_acmp_eq {rx ry : Option Nat} {off : Int} (tgt : Nat) (hd : decode mi.2.1 pc = .ok (.if_acmp .eq off, 3)) (ht : (pc : Int) + off = (tgt : Int)) (B1 : rx = ry → VV X mi R post tgt lv st M k n) (B2 : ¬ rx = ry → VV X mi R post (pc + 3) lv st M k n) : VV X mi R post pc lv (.inr (.inr ry) :: .inr (.inr rx) :: st) M k n :=
  fun p e s m args below meth c H locs ls B hl hh hS => lv_acmp_eq B.1 B.2.1 hd ht (fun z => B1 z p e s m args below meth c H locs ls B hl hh hS) (fun z => B2 z p e s m args below meth c H locs ls B hl hh hS)
theorem vv_acmp_ne {rx ry : Option Nat} {off : Int} (tgt : Nat) (hd : decode mi.2.1 pc = .ok (.if_acmp .ne off, 3)) (ht : (pc : Int) + off = (tgt : Int)) (B1 : ¬ rx = ry → VV X mi R post tgt lv st M k n) (B2 : rx = ry → VV X mi R post (pc + 3) lv st M k n) : VV X mi R post pc lv (.inr (.inr ry) :: .inr (.inr rx) :: st) M k n :=
  fun p e s m args below meth c H locs ls B hl hh hS => lv_acmp_ne B.1 B.2.1 hd ht (fun z => B1 z p e s m args below meth c H locs ls B hl hh hS) (fun z => B2 z p e s m args below meth c H locs ls B hl hh hS)
theorem vv_goto {off : Int} (tgt : Nat) (hd : decode mi.2.1 pc = .ok (.goto off, 3)) (ht : (pc : Int) + off = (tgt : Int)) (K : VV X mi R post tgt lv st M k n) : VV X mi R post pc lv st M k n :=
  fun p e s m args below meth c H locs ls B hl hh hS => lv_goto B.1 B.2.1 hd ht (K p e s m args below meth c H locs ls B hl hh hS)
theorem vv_ifnull {x : Option Nat} {off : Int} (tgt : Nat) (hd : decode mi.2.1 pc = .ok (.ifnull off, 3)) (ht : (pc : Int) + off = (tgt : Int)) (B1 : x = none → VV X mi R post tgt lv st M k n) (B2 : ∀ a, x = some a → VV X mi R post (pc + 3) lv st M k n) : VV X mi R post pc lv (.inr (.inr x) :: st) M k n := by
  intro p e s m args below meth c H locs ls B hl hh hS
  cases x with
  | none => exact lv_ifnullN B.1 B.2.1 hd ht (B1 rfl p e s m args below meth c H locs ls B hl hh hS)
  | some a => exact lv_ifnull B.1 B.2.1 hd (B2 a rfl p e s m args below meth c H locs ls B hl hh hS)
theorem vv_ifnonnull {x : Option Nat} {off : Int} (tgt : Nat) (hd : decode mi.2.1 pc = .ok (.ifnonnull off, 3)) (ht : (pc : Int) + off = (tgt : Int)) (B1 : ∀ a, x = some a → VV X mi R post tgt lv st M k n) (B2 : x = none → VV X mi R post (pc + 3) lv st M k n) : VV X mi R post pc lv (.inr (.inr x) :: st) M k n := by
  intro p e s m args below meth c H locs ls B hl hh hS
  cases x with
  | none => exact lv_ifnonnullN B.1 B.2.1 hd (B2 rfl p e s m args below meth c H locs ls B hl hh hS)
  | some a => exact lv_ifnonnull B.1 B.2.1 hd ht (B1 a rfl p e s m args below meth c H locs ls B hl hh hS)
theorem vv_tsw {x : Int32} {dflt lo hi : Int} {offs : Array Int} {len : Nat} (td : Nat) (tg : List Nat) (hd : decode mi.2.1 pc = .ok (.tableswitch dflt lo hi offs, len)) (htd : (pc : Int) + dflt = (td : Int)) (hlo : hi = lo + tg.length - 1) (htg : offs.toList.map (fun o => (pc : Int) + o) = tg.map (fun (t : Nat) => (t : Int)))
    (B1 : ∀ (j t : Nat), tg[j]? = some t → x.toInt = lo + (j : Int) → VV X mi R post t lv st M k n) (B2 : ¬ (lo ≤ x.toInt ∧ x.toInt ≤ hi) → VV X mi R post td lv st M k n) : VV X mi R post pc lv (.inl x :: st) M k n := by
  intro p e s m args below meth c H locs ls B hl hh hS
  by_cases h : lo ≤ x.toInt ∧ x.toInt ≤ hi
  · have hj : (x.toInt - lo).toNat < tg.length := by omega
    have ht : tg[(x.toInt - lo).toNat]? = some (tg[(x.toInt - lo).toNat]) := List.getElem?_eq_getElem hj
    have e1 : (offs.toList.map (fun o => (pc : Int) + o))[(x.toInt - lo).toNat]? = some ((tg[(x.toInt - lo).toNat] : Nat) : Int) := by rw [htg, List.getElem?_map, ht]; rfl
    rw [List.getElem?_map] at e1
    cases ho : offs.toList[(x.toInt - lo).toNat]? with
    | none => rw [ho] at e1; cases e1
    | some off =>
      rw [ho] at e1
      refine lv_tableIn (off := off) (tgt := tg[(x.toInt - lo).toNat]) B.1 B.2.1 hd (by omega) (by omega) (by rw [← Array.getElem?_toList]; exact ho) (Option.some.inj e1) (B1 _ _ ht (by omega) p e s m args below meth c H locs ls B hl hh hS)
  · exact lv_tableOut (tgt := td) B.1 B.2.1 hd (by omega) htd (B2 h p e s m args below meth c H locs ls B hl hh hS)

theorem vv_iret {pI : Int32 → Mm → Prop} {v : Int32} (hd : decode mi.2.1 pc = .ok (.ireturn, 1)) (hr : mi.2.2.2 = some .int) (hk : k ≤ R.cells) (hn : n ≤ R.slots) (h : pI v M) : VV X mi R (pI_ pI) pc lv [.inl v] M k n := by
  intro p e s m args below meth c H locs ls B hl hh hS
  obtain ⟨b1, b2, b3, b4, b5, b6, hlocks, b8, b9⟩ := B
  refine W.widen hk hn ?_
  exact W.iret b1 b2 (b3.trans hr) (fun t ht hW => ⟨⟨some (.inl v), M, rfl, h, by rw [ht]; exact hh⟩, hS.F ht⟩) hS.2.2 hd
theorem vv_zret {pI : Int32 → Mm → Prop} {v : Int32} (hd : decode mi.2.1 pc = .ok (.ireturn, 1)) (hr : mi.2.2.2 = some .boolean) (hv : v = 0 ∨ v = 1) (hk : k ≤ R.cells) (hn : n ≤ R.slots) (h : pI v M) : VV X mi R (pI_ pI) pc lv [.inl v] M k n := by
  intro p e s m args below meth c H locs ls B hl hh hS
  obtain ⟨b1, b2, b3, b4, b5, b6, hlocks, b8, b9⟩ := B
  refine W.widen hk hn ?_
  refine W.zret b1 b2 (b3.trans hr) ?_ (fun t ht hW => ⟨⟨some (.inl v), M, rfl, h, by rw [ht]; exact hh⟩, hS.F ht⟩) hS.2.2 hd
  rcases hv with rfl | rfl <;> rfl
theorem vv_lret {pL : Int64 → Mm → Prop} {v : Int64} (hd : decode mi.2.1 pc = .ok (.lreturn, 1)) (hr : mi.2.2.2 = some .long) (hk : k ≤ R.cells) (hn : n ≤ R.slots) (h : pL v M) : VV X mi R (pL_ pL) pc lv [.inr (.inl v)] M k n := by
  intro p e s m args below meth c H locs ls B hl hh hS
  obtain ⟨b1, b2, b3, b4, b5, b6, hlocks, b8, b9⟩ := B
  refine W.widen hk hn ?_
  exact W.lret b1 b2 (b3.trans hr) (fun t ht hW => ⟨⟨some (.inr (.inl v)), M, rfl, h, by rw [ht]; exact hh⟩, hS.F ht⟩) hS.2.2 hd
theorem vv_aret {pR : Option Nat → Mm → Prop} {v : Option Nat} {cn : String} (hd : decode mi.2.1 pc = .ok (.areturn, 1)) (hr : mi.2.2.2 = some (.object cn)) (hk : k ≤ R.cells) (hn : n ≤ R.slots) (h : pR v M) : VV X mi R (pR_ pR) pc lv [.inr (.inr v)] M k n := by
  intro p e s m args below meth c H locs ls B hl hh hS
  obtain ⟨b1, b2, b3, b4, b5, b6, hlocks, b8, b9⟩ := B
  refine W.widen hk hn ?_
  exact W.aret b1 b2 (b3.trans hr) (Or.inl ⟨cn, rfl⟩) (by cases v <;> simp [tv_, va_rf]) (fun t ht hW => ⟨⟨some (.inr (.inr v)), M, rfl, h, by rw [ht]; exact hh⟩, hS.F ht⟩) hS.2.2 hd
theorem vv_vret {pV : Mm → Prop} (hd : decode mi.2.1 pc = .ok (.return_, 1)) (hr : mi.2.2.2 = none) (hk : k ≤ R.cells) (hn : n ≤ R.slots) (h : pV M) : VV X mi R (pV_ pV) pc lv [] M k n := by
  intro p e s m args below meth c H locs ls B hl hh hS
  obtain ⟨b1, b2, b3, b4, b5, b6, hlocks, b8, b9⟩ := B
  refine W.widen hk hn ?_
  exact W.vret b1 b2 (b3.trans hr) (fun t ht hW => ⟨⟨none, M, rfl, h, by rw [ht]; exact hh⟩, hS.F ht⟩) hS.2.2 hd
end RU
end
section
section RM
variable {X : Cx_} {mi : Mi_} {R : Room} {post : Option Sm → Mm → Prop} {pc : Nat} {lv : List (Nat × Sm)} {st : List Sm} {M : Mm} {k n : Nat}
theorem get_core {p : Program} {e : Env} {s : State} {m : MethodId} {args : Array Value} {below : List Frame} {meth : Method} {c : Code} {H : Heap} {locs : List Loc} {ls : Array Slot} {Q : State → Prop} {rest : List Value} {a ci fk kk idx : Nat} {v : Value}
    (B : Bd_ X mi p s m args meth c) (hh : hp_ X M H) (hT : ddT M a = ci + 1) (hci : ci < 12) (hf : fl_ok mi.1.cls idx ci fk kk = true) (hv : kd_ ci fk = kk → fv_ M ci a fk = v) (hd : decode mi.2.1 pc = .ok (.getfield idx, 3))
    (K : W p X.1 e R s m args below meth c H locs k n Q (F0 m (pc + 3) ls (v :: rest))) : W p X.1 e R s m args below meth c H locs k n Q (F0 m pc ls (.ref a :: rest)) := by
  obtain ⟨r, hr, hk, hN, hkd, hlink⟩ := fl_spec hf
  obtain ⟨b1, b2, b3, b4, b5, b6, hlocks, b8, b9⟩ := B
  obtain ⟨cell, q1, q2, q3, q4⟩ := (hh.2.2.2.2 a).1 ci hT hci
  obtain ⟨hSl, hfc, kC, hkC, hkind⟩ := b9.1.1 ci r hr
  obtain ⟨cf, kf, fi, f, hi, hsl⟩ := hSl fk hk
  refine W.getf b1 b2 b5 (b6 _ (tg_ hlink rfl)) hi (u_facts hfc hkC (u_lays b6 (cl_in hr) hk) hi).1 q1 (by rw [q3]; exact fun h => by cases h) (v := v) ?_ rfl rfl hd K
  rw [hsl, q4 fk (by rw [← hN]; exact hk), hv hkd]
theorem vv_getI {o : Option Nat} {a : Nat} (ci fk : Nat) {idx : Nat} (ho : o = some a) (hT : ddT M a = ci + 1) (hf : fl_ok mi.1.cls idx ci fk 0 = true) (hci : ci < 12) (hd : decode mi.2.1 pc = .ok (.getfield idx, 3)) (K : VV X mi R post (pc + 3) lv (.inl (ddI M a fk) :: st) M k n) : VV X mi R post pc lv (.inr (.inr o) :: st) M k n := by
  intro p e s m args below meth c H locs ls B hl hh hS
  subst ho
  exact get_core (v := .int (ddI M a fk)) B hh hT hci hf (fun h => by unfold fv_; rw [if_pos h]) hd (K p e s m args below meth c H locs ls B hl hh hS)
theorem vv_getL {o : Option Nat} {a : Nat} (ci fk : Nat) {idx : Nat} (ho : o = some a) (hT : ddT M a = ci + 1) (hf : fl_ok mi.1.cls idx ci fk 1 = true) (hci : ci < 12) (hd : decode mi.2.1 pc = .ok (.getfield idx, 3)) (K : VV X mi R post (pc + 3) lv (.inr (.inl (ddL M a fk)) :: st) M k n) : VV X mi R post pc lv (.inr (.inr o) :: st) M k n := by
  intro p e s m args below meth c H locs ls B hl hh hS
  subst ho
  exact get_core (v := .long (ddL M a fk)) B hh hT hci hf (fun h => by unfold fv_; rw [if_neg (by omega), if_pos h]) hd (K p e s m args below meth c H locs ls B hl hh hS)
theorem vv_getR {o : Option Nat} {a : Nat} (ci fk : Nat) {idx : Nat} (ho : o = some a) (hT : ddT M a = ci + 1) (hf : fl_ok mi.1.cls idx ci fk 2 = true) (hci : ci < 12) (hd : decode mi.2.1 pc = .ok (.getfield idx, 3)) (K : VV X mi R post (pc + 3) lv (.inr (.inr (ddR M a fk)) :: st) M k n) : VV X mi R post pc lv (.inr (.inr o) :: st) M k n := by
  intro p e s m args below meth c H locs ls B hl hh hS
  subst ho
  exact get_core (v := va_rf (ddR M a fk)) B hh hT hci hf (fun h => by unfold fv_; rw [if_neg (by omega), if_neg (by omega)]) hd (K p e s m args below meth c H locs ls B hl hh hS)
theorem put_core {p : Program} {e : Env} {s : State} {m : MethodId} {args : Array Value} {below : List Frame} {meth : Method} {c : Code} {H : Heap} {locs : List Loc} {ls : Array Slot} {Q : State → Prop} {rest : List Value} {a ci fk idx : Nat} {v : Value} {ty : FieldType} {fin : Bool} {M' : Mm}
    (B : Bd_ X mi p s m args meth c) (hh : hp_ X M H) (hS : va_S (A_x X) s.heap H locs) (hT : ddT M a = ci + 1) (hci : ci < 12) (hq : fq_ok mi.1.cls idx ci fk ty fin = true) (hfin : fin = true → mi.1.name = "<init>") (hn : narrow ty v = v) (hfit : fits ty v = true)
    (eT : ddT M' = ddT M) (eN : ddN M' = ddN M) (eZ : ddZ M' = ddZ M) (eI : ∀ b, b ≠ a → ddI M' b = ddI M b) (eL : ∀ b, b ≠ a → ddL M' b = ddL M b) (eR : ∀ b, b ≠ a → ddR M' b = ddR M b) (hv : ∀ j, updV (fv_ M ci a) fk v j = fv_ M' ci a j)
    (hd : decode mi.2.1 pc = .ok (.putfield idx, 3))
    (K : ∀ (H' : Heap) (locs' : List Loc), hp_ X M' H' → va_S (A_x X) s.heap H' locs' → W p X.1 e R s m args below meth c H' locs' k n Q (F0 m (pc + 3) ls rest)) : W p X.1 e R s m args below meth c H locs k n Q (F0 m pc ls (v :: .ref a :: rest)) := by
  obtain ⟨r, hr, hk, hN, hty, hlink, hfl, hdecl⟩ := fq_spec hq
  obtain ⟨b1, b2, b3, b4, b5, b6, hlocks, b8, b9⟩ := B
  have hap := va_apart (own := mi.1.cls) (D := X.2.1) (ci := ci) b6 (cl_in hr) (fun k => (parseFieldDescriptor (r.2.1 k).2.2.1).getD .int) (cl_ty r (List.mem_of_getElem? hr)) (cl_nm r (List.mem_of_getElem? hr)) b9.1 hr
  obtain ⟨cell, q1, q2, q3, q4⟩ := (hh.2.2.2.2 a).1 ci hT hci
  rw [← hN] at q4
  obtain ⟨hSl, hfc, kC, hkC, hkind⟩ := b9.1.1 ci r hr
  obtain ⟨cf, kf, fi, f, hi, hsl⟩ := hSl fk hk
  have hst := (u_facts hfc hkC (u_lays b6 (cl_in hr) hk) hi).1
  have hlay := b6 _ (cl_in hr _ (u_in_lay hk))
  have hA : A_x X a := hh.2.2.1 a (by omega)
  have fini : ∀ H' : Heap, H'[a]? = some (cell.setSlot f.slot v) → H'.size = H.size → (∀ q, q ≠ a → H'[q]? = H[q]?) → W p X.1 e R s m args below meth c H' (locs ++ [⟨a, f.slot⟩]) k n Q (F0 m (pc + 3) ls rest) := by
    intro H' e1 e2 e3
    rw [hsl] at e1
    refine K H' _ (hp_set (a := a) hh eT eN eZ eI eL eR e2 e3 ?_) (hS.put e2 e3 hA)
    have hne : ddT M' a = ci + 1 := by rw [eT]; exact hT
    refine ⟨fun cj hc hl => ?_, fun h => by omega, fun h => by omega, fun h => by omega, fun t ht h => by omega⟩
    have hcj : cj = ci := by omega
    subst hcj
    rw [← hN]
    exact t_OB.to (V := updV (fv_ M cj a) fk v) ⟨_, e1, q2, q3, t_set q4 hap hk v⟩ (fun j _ => hv j)
  cases fin with
  | false =>
    unfold u_lay at hlay
    rw [if_neg (by rw [hfl]; decide)] at hlay
    have h6 := u_store hfc hkC hkind hlay hi hty hn hfit
    exact W.putK b1 b2 (f := f) ⟨b5, b6 _ (tg_ hlink rfl), ⟨_, _, _, hi⟩, hst⟩ (by rw [q2]; exact h6) q1 q3 (by rw [hsl]; exact k2_hasslot (q4 fk hk)) rfl rfl hd fini
  | true =>
    unfold u_lay at hlay
    rw [if_pos hfl] at hlay
    have hcf : m.cls = cf := by
      obtain ⟨_, _, c', _, _, _, -, -, hf', -, -, -, hown2, -⟩ := Cond.laysFinal_spec hlay
      have e1 : c' = cf := by have := hi.symm.trans hf'; simp at this; exact this.1.symm
      rw [hdecl rfl] at hown2
      rw [← e1]; exact Option.some.inj (b5.symm.trans hown2)
    have h6 := u_fits hfc hkC hkind (Or.inr hlay) hi hty hn hfit
    exact W.putFinK b1 b2 b5 (b6 _ (tg_ hlink rfl)) hi hst hcf (b8.trans (hfin rfl)) (by rw [q2]; exact h6) q1 q3 (by rw [hsl]; exact k2_hasslot (q4 fk hk)) rfl rfl hd fini
theorem up2_ne {α : Type} {f : Nat → Nat → α} {a k b : Nat} {v : α} (h : b ≠ a) : up2_ f a k v b = f b := by
  funext j
  unfold up2_
  rw [if_neg (fun q => h q.1)]
theorem up2_at {α : Type} {f : Nat → Nat → α} {a k : Nat} {v : α} : up2_ f a k v a = fun j => if j = k then v else f a j := by
  funext j
  unfold up2_
  by_cases h : j = k <;> simp [h]
theorem vv_putI {o : Option Nat} {a : Nat} {v : Int32} (ci fk : Nat) {idx : Nat} {fin : Bool} (ho : o = some a) (hT : ddT M a = ci + 1) (hq : fq_ok mi.1.cls idx ci fk .int fin = true) (hfin : fin = true → mi.1.name = "<init>") (hkd : kd_ ci fk = 0) (hci : ci < 12) (hd : decode mi.2.1 pc = .ok (.putfield idx, 3)) (K : VV X mi R post (pc + 3) lv st (suI M a fk v) k n) : VV X mi R post pc lv (.inl v :: .inr (.inr o) :: st) M k n := by
  intro p e s m args below meth c H locs ls B hl hh hS
  subst ho
  refine put_core (v := .int v) (M' := suI M a fk v) B hh hS hT hci hq hfin rfl rfl rfl rfl rfl (fun b hb => up2_ne hb) (fun b hb => rfl) (fun b hb => rfl) (fun j => ?_) hd (fun H' locs' hh' hS' => K p e s m args below meth c H' locs' ls B hl hh' hS')
  unfold updV fv_ suI ddI ddL ddR
  dsimp only
  rw [up2_at]
  by_cases h : j = fk
  · subst h
    rw [if_pos rfl, if_pos hkd]
    simp
  · rw [if_neg h]
    simp only [if_neg h]
theorem vv_putZ {o : Option Nat} {a : Nat} {v : Int32} (ci fk : Nat) {idx : Nat} {fin : Bool} (hz : v = 0 ∨ v = 1) (ho : o = some a) (hT : ddT M a = ci + 1) (hq : fq_ok mi.1.cls idx ci fk .boolean fin = true) (hfin : fin = true → mi.1.name = "<init>") (hkd : kd_ ci fk = 0) (hci : ci < 12) (hd : decode mi.2.1 pc = .ok (.putfield idx, 3)) (K : VV X mi R post (pc + 3) lv st (suI M a fk v) k n) : VV X mi R post pc lv (.inl v :: .inr (.inr o) :: st) M k n := by
  intro p e s m args below meth c H locs ls B hl hh hS
  subst ho
  refine put_core (v := .int v) (M' := suI M a fk v) B hh hS hT hci hq hfin (by rcases hz with rfl | rfl <;> rfl) (by rcases hz with rfl | rfl <;> rfl) rfl rfl rfl (fun b hb => up2_ne hb) (fun b hb => rfl) (fun b hb => rfl) (fun j => ?_) hd (fun H' locs' hh' hS' => K p e s m args below meth c H' locs' ls B hl hh' hS')
  unfold updV fv_ suI ddI ddL ddR
  dsimp only
  rw [up2_at]
  by_cases h : j = fk
  · subst h
    rw [if_pos rfl, if_pos hkd]
    simp
  · rw [if_neg h]
    simp only [if_neg h]
theorem vv_putL {o : Option Nat} {a : Nat} {v : Int64} (ci fk : Nat) {idx : Nat} {fin : Bool} (ho : o = some a) (hT : ddT M a = ci + 1) (hq : fq_ok mi.1.cls idx ci fk .long fin = true) (hfin : fin = true → mi.1.name = "<init>") (hkd : kd_ ci fk = 1) (hci : ci < 12) (hd : decode mi.2.1 pc = .ok (.putfield idx, 3)) (K : VV X mi R post (pc + 3) lv st (suL M a fk v) k n) : VV X mi R post pc lv (.inr (.inl v) :: .inr (.inr o) :: st) M k n := by
  intro p e s m args below meth c H locs ls B hl hh hS
  subst ho
  refine put_core (v := .long v) (M' := suL M a fk v) B hh hS hT hci hq hfin rfl rfl rfl rfl rfl (fun b hb => rfl) (fun b hb => up2_ne hb) (fun b hb => rfl) (fun j => ?_) hd (fun H' locs' hh' hS' => K p e s m args below meth c H' locs' ls B hl hh' hS')
  unfold updV fv_ suL ddI ddL ddR
  dsimp only
  rw [up2_at]
  by_cases h : j = fk
  · subst h
    rw [if_pos rfl, if_neg (by omega), if_pos hkd]
    simp
  · rw [if_neg h]
    simp only [if_neg h]
theorem vv_putR {o : Option Nat} {a : Nat} {v : Option Nat} (ci fk : Nat) {idx : Nat} {fin : Bool} (ty : FieldType) (hty : ty.isReference = true) (ho : o = some a) (hT : ddT M a = ci + 1) (hq : fq_ok mi.1.cls idx ci fk ty fin = true) (hfin : fin = true → mi.1.name = "<init>") (hkd : kd_ ci fk = 2) (hci : ci < 12) (hd : decode mi.2.1 pc = .ok (.putfield idx, 3)) (K : VV X mi R post (pc + 3) lv st (suR M a fk v) k n) : VV X mi R post pc lv (.inr (.inr v) :: .inr (.inr o) :: st) M k n := by
  intro p e s m args below meth c H locs ls B hl hh hS
  subst ho
  refine put_core (v := va_rf v) (M' := suR M a fk v) B hh hS hT hci hq hfin (by cases ty <;> cases v <;> first | rfl | (exfalso; revert hty; decide)) (by cases ty <;> cases v <;> first | rfl | (exfalso; revert hty; decide)) rfl rfl rfl (fun b hb => rfl) (fun b hb => rfl) (fun b hb => up2_ne hb) (fun j => ?_) hd (fun H' locs' hh' hS' => K p e s m args below meth c H' locs' ls B hl hh' hS')
  unfold updV fv_ suR ddI ddL ddR
  dsimp only
  rw [up2_at]
  by_cases h : j = fk
  · subst h
    rw [if_pos rfl, if_neg (by omega), if_neg (by omega)]
    simp
  · rw [if_neg h]
    simp only [if_neg h]
/-! arrays -/
theorem ix_lt {i : Int32} {N : Nat} (h : vp_in i N) : i.toNatClampNeg < N := Nat.not_le.mp fun q => h (Or.inr q)
theorem vv_iald {o : Option Nat} {a : Nat} {i : Int32} (ho : o = some a) (hT : ddT M a = 20) (hi : vp_in i (ddN M a)) (hd : decode mi.2.1 pc = .ok (.iaload, 1)) (K : VV X mi R post (pc + 1) lv (.inl (ddI M a i.toNatClampNeg) :: st) M k n) : VV X mi R post pc lv (.inl i :: .inr (.inr o) :: st) M k n := by
  intro p e s m args below meth c H locs ls B hl hh hS
  subst ho
  have hc := (hh.2.2.2.2 a).2.1 hT
  exact W.iald (v := .int (ddI M a i.toNatClampNeg)) B.1 B.2.1 hc ((B.2.2.2.2.2.2.2.2.1.2 0 _ rfl).1 _ _) (fun q => by cases q) (by rw [arrV_size]; exact hi) (arrV_read _ _ (ix_lt hi)) rfl rfl hd (K p e s m args below meth c H locs ls B hl hh hS)
theorem vv_lald {o : Option Nat} {a : Nat} {i : Int32} (ho : o = some a) (hT : ddT M a = 21) (hi : vp_in i (ddN M a)) (hd : decode mi.2.1 pc = .ok (.laload, 1)) (K : VV X mi R post (pc + 1) lv (.inr (.inl (ddL M a i.toNatClampNeg)) :: st) M k n) : VV X mi R post pc lv (.inl i :: .inr (.inr o) :: st) M k n := by
  intro p e s m args below meth c H locs ls B hl hh hS
  subst ho
  have hc := (hh.2.2.2.2 a).2.2.1 hT
  exact W.lald (v := .long (ddL M a i.toNatClampNeg)) B.1 B.2.1 hc ((B.2.2.2.2.2.2.2.2.1.2 1 _ rfl).1 _ _) (fun q => by cases q) (by rw [arrV_size]; exact hi) (arrV_read _ _ (ix_lt hi)) rfl rfl hd (K p e s m args below meth c H locs ls B hl hh hS)
theorem vv_zald {o : Option Nat} {a : Nat} {i : Int32} (ho : o = some a) (hT : ddT M a = 22) (hi : vp_in i (ddN M a)) (hd : decode mi.2.1 pc = .ok (.baload, 1)) (K : VV X mi R post (pc + 1) lv (.inl (ddI M a i.toNatClampNeg) :: st) M k n) : VV X mi R post pc lv (.inl i :: .inr (.inr o) :: st) M k n := by
  intro p e s m args below meth c H locs ls B hl hh hS
  subst ho
  have hc := (hh.2.2.2.2 a).2.2.2.1 hT
  exact W.zald (v := .int (ddI M a i.toNatClampNeg)) B.1 B.2.1 hc ((B.2.2.2.2.2.2.2.2.1.2 2 _ rfl).1 _ _) (fun q => by cases q) (by rw [arrV_size]; exact hi) (arrV_read _ _ (ix_lt hi)) rfl rfl hd (K p e s m args below meth c H locs ls B hl hh hS)
theorem vv_aald {o : Option Nat} {a t : Nat} {cn : String} {i : Int32} (ht : 23 ≤ t) (hty : (ty_s X)[t - 20]? = some (X.2.2.1 t, .object cn)) (ho : o = some a) (hT : ddT M a = t) (hi : vp_in i (ddN M a)) (hd : decode mi.2.1 pc = .ok (.aaload, 1)) (K : VV X mi R post (pc + 1) lv (.inr (.inr (ddR M a i.toNatClampNeg)) :: st) M k n) : VV X mi R post pc lv (.inl i :: .inr (.inr o) :: st) M k n := by
  intro p e s m args below meth c H locs ls B hl hh hS
  subst ho
  have hc := (hh.2.2.2.2 a).2.2.2.2 t ht hT
  exact W.aald (v := va_rf (ddR M a i.toNatClampNeg)) (ty := .object cn) B.1 B.2.1 hc ((B.2.2.2.2.2.2.2.2.1.2 (t - 20) _ hty).1 _ _) rfl (fun q => by cases q) (by rw [arrV_size]; exact hi) (arrV_read _ _ (ix_lt hi)) rfl rfl hd (K p e s m args below meth c H locs ls B hl hh hS)
theorem st_core {H H' : Heap} {a t j : Nat} {f : Nat → Value} {v : Value} {M' : Mm} (hh : hp_ X M H) (h20 : 20 ≤ t) (hT : ddT M a = t) (e1 : H'[a]? = some ((arrV (X.2.2.1 t) (ddN M a) f).setSlot j v)) (e2 : H'.size = H.size) (e3 : ∀ q, q ≠ a → H'[q]? = H[q]?)
    (eT : ddT M' = ddT M) (eN : ddN M' = ddN M) (eZ : ddZ M' = ddZ M) (eI : ∀ b, b ≠ a → ddI M' b = ddI M b) (eL : ∀ b, b ≠ a → ddL M' b = ddL M b) (eR : ∀ b, b ≠ a → ddR M' b = ddR M b)
    (hi : t = 20 ∨ t = 22 → updV f j v = fun x => .int (ddI M' a x)) (hl : t = 21 → updV f j v = fun x => .long (ddL M' a x)) (hr : 23 ≤ t → updV f j v = fun x => va_rf (ddR M' a x)) : hp_ X M' H' := by
  refine hp_set (a := a) hh eT eN eZ eI eL eR e2 e3 ?_
  rw [arrV_store] at e1
  have hT' : ddT M' a = t := by rw [eT]; exact hT
  have hN' : ddN M' a = ddN M a := by rw [eN]
  refine ⟨fun ci hc hl => by omega, fun h => ?_, fun h => ?_, fun h => ?_, fun t' ht' h => ?_⟩
  · have e : t = 20 := by omega
    rw [e1, hN', hi (Or.inl e), e]
  · have e : t = 21 := by omega
    rw [e1, hN', hl e, e]
  · have e : t = 22 := by omega
    rw [e1, hN', hi (Or.inr e), e]
  · have e : t = t' := by omega
    rw [e1, hN', hr (by omega), e]
theorem vv_iast {o : Option Nat} {a : Nat} {i v : Int32} (ho : o = some a) (hT : ddT M a = 20) (hi : vp_in i (ddN M a)) (hd : decode mi.2.1 pc = .ok (.iastore, 1)) (K : VV X mi R post (pc + 1) lv st (suI M a i.toNatClampNeg v) k n) : VV X mi R post pc lv (.inl v :: .inl i :: .inr (.inr o) :: st) M k n := by
  intro p e s m args below meth c H locs ls B hl hh hS
  subst ho
  have hc := (hh.2.2.2.2 a).2.1 hT
  refine W.iast B.1 B.2.1 hc ((B.2.2.2.2.2.2.2.2.1.2 0 _ rfl).1 _ _) (fun q => by cases q) (by rw [arrV_size]; exact hi) rfl rfl hd fun H' e1 e2 e3 => ?_
  refine K p e s m args below meth c H' _ ls B hl (st_core (M' := suI M a i.toNatClampNeg v) hh (by omega) hT e1 e2 e3 rfl rfl rfl (fun b hb => up2_ne hb) (fun b hb => rfl) (fun b hb => rfl) (fun _ => ?_) (fun h => by omega) (fun h => by omega)) (hS.put e2 e3 (hh.2.2.1 a (by omega)))
  funext x
  unfold updV suI ddI
  dsimp only
  rw [up2_at]
  by_cases h : x = i.toNatClampNeg <;> simp [h]
theorem vv_zast {o : Option Nat} {a : Nat} {i v : Int32} (hz : v = 0 ∨ v = 1) (ho : o = some a) (hT : ddT M a = 22) (hi : vp_in i (ddN M a)) (hd : decode mi.2.1 pc = .ok (.bastore, 1)) (K : VV X mi R post (pc + 1) lv st (suI M a i.toNatClampNeg v) k n) : VV X mi R post pc lv (.inl v :: .inl i :: .inr (.inr o) :: st) M k n := by
  intro p e s m args below meth c H locs ls B hl hh hS
  subst ho
  have hc := (hh.2.2.2.2 a).2.2.2.1 hT
  refine W.zast B.1 B.2.1 hc ((B.2.2.2.2.2.2.2.2.1.2 2 _ rfl).1 _ _) (fun q => by cases q) (by rw [arrV_size]; exact hi) rfl rfl hd fun H' e1 e2 e3 => ?_
  have e1 : H'[a]? = some ((arrV (X.2.2.1 22) (ddN M a) (fun j => .int (ddI M a j))).setSlot i.toNatClampNeg (.int v)) := by
    rw [e1]
    rcases hz with rfl | rfl <;> rfl
  refine K p e s m args below meth c H' _ ls B hl (st_core (M' := suI M a i.toNatClampNeg v) hh (by omega) hT e1 e2 e3 rfl rfl rfl (fun b hb => up2_ne hb) (fun b hb => rfl) (fun b hb => rfl) (fun _ => ?_) (fun h => by omega) (fun h => by omega)) (hS.put e2 e3 (hh.2.2.1 a (by omega)))
  funext x
  unfold updV suI ddI
  dsimp only
  rw [up2_at]
  by_cases h : x = i.toNatClampNeg <;> simp [h]
theorem vv_last {o : Option Nat} {a : Nat} {i : Int32} {v : Int64} (ho : o = some a) (hT : ddT M a = 21) (hi : vp_in i (ddN M a)) (hd : decode mi.2.1 pc = .ok (.lastore, 1)) (K : VV X mi R post (pc + 1) lv st (suL M a i.toNatClampNeg v) k n) : VV X mi R post pc lv (.inr (.inl v) :: .inl i :: .inr (.inr o) :: st) M k n := by
  intro p e s m args below meth c H locs ls B hl hh hS
  subst ho
  have hc := (hh.2.2.2.2 a).2.2.1 hT
  refine W.last B.1 B.2.1 hc ((B.2.2.2.2.2.2.2.2.1.2 1 _ rfl).1 _ _) (fun q => by cases q) (by rw [arrV_size]; exact hi) rfl rfl hd fun H' e1 e2 e3 => ?_
  refine K p e s m args below meth c H' _ ls B hl (st_core (M' := suL M a i.toNatClampNeg v) hh (by omega) hT e1 e2 e3 rfl rfl rfl (fun b hb => rfl) (fun b hb => up2_ne hb) (fun b hb => rfl) (fun h => by omega) (fun _ => ?_) (fun h => by omega)) (hS.put e2 e3 (hh.2.2.1 a (by omega)))
  funext x
  unfold updV suL ddL
  dsimp only
  rw [up2_at]
  by_cases h : x = i.toNatClampNeg <;> simp [h]
theorem vv_aastN {o : Option Nat} {a t : Nat} {cn : String} {i : Int32} (ht : 23 ≤ t) (hty : (ty_s X)[t - 20]? = some (X.2.2.1 t, .object cn)) (ho : o = some a) (hT : ddT M a = t) (hi : vp_in i (ddN M a)) (hd : decode mi.2.1 pc = .ok (.aastore, 1)) (K : VV X mi R post (pc + 1) lv st (suR M a i.toNatClampNeg none) k n) : VV X mi R post pc lv (.inr (.inr none) :: .inl i :: .inr (.inr o) :: st) M k n := by
  intro p e s m args below meth c H locs ls B hl hh hS
  subst ho
  have hc := (hh.2.2.2.2 a).2.2.2.2 t ht hT
  refine va_WaastN (C := cn) B.1 B.2.1 hc ((B.2.2.2.2.2.2.2.2.1.2 (t - 20) _ hty).1 _ _) (fun q => by cases q) (by rw [arrV_size]; exact hi) rfl rfl hd fun H' e1 e2 e3 => ?_
  refine K p e s m args below meth c H' _ ls B hl (st_core (M' := suR M a i.toNatClampNeg none) hh (by omega) hT e1 e2 e3 rfl rfl rfl (fun b hb => rfl) (fun b hb => rfl) (fun b hb => up2_ne hb) (fun h => by omega) (fun h => by omega) (fun _ => ?_)) (hS.put e2 e3 (hh.2.2.1 a (by omega)))
  funext x
  unfold updV suR ddR
  dsimp only
  rw [up2_at]
  by_cases h : x = i.toNatClampNeg <;> simp [h, va_rf]
theorem vv_aast {o w : Option Nat} {a t ci v : Nat} {r : vw_C} {i : Int32} (ht : 23 ≤ t) (hci : ci < 12) (hr : vwCl[ci]? = some r) (hty : (ty_s X)[t - 20]? = some (X.2.2.1 t, .object r.1)) (hw : w = some v) (hTv : ddT M v = ci + 1) (ho : o = some a) (hT : ddT M a = t) (hi : vp_in i (ddN M a)) (hd : decode mi.2.1 pc = .ok (.aastore, 1)) (K : VV X mi R post (pc + 1) lv st (suR M a i.toNatClampNeg w) k n) : VV X mi R post pc lv (.inr (.inr w) :: .inl i :: .inr (.inr o) :: st) M k n := by
  intro p e s m args below meth c H locs ls B hl hh hS
  subst ho
  subst hw
  have hc := (hh.2.2.2.2 a).2.2.2.2 t ht hT
  obtain ⟨cellV, g1, g2, g3, -⟩ := (hh.2.2.2.2 v).1 ci hTv hci
  have hcls := (B.2.2.2.2.2.2.2.2.1.1 ci r hr).2
  obtain ⟨kA, comp, k1, k2, k3, -⟩ := (B.2.2.2.2.2.2.2.2.1.2 (t - 20) _ hty).2
  have hcomp : comp = X.2.1.1 ci := Option.some.inj (k3.symm.trans hcls.1)
  subst hcomp
  have hcl2 := hcls
  obtain ⟨kC, hkC, -⟩ := hcl2.2
  refine W.aast B.1 B.2.1 hc (fun q h => by cases h) (fun h => by cases h) k1 k2 rfl hkC ⟨fun q => hi (Or.inl q), by rw [arrV_size]; exact ix_lt hi⟩ g1 (fun q h => by rw [g3] at h; cases h) (by rw [g2]; exact hkC) (by rw [g2]; exact va_assign hcls) rfl rfl hd fun H' e1 e2 e3 => ?_
  refine K p e s m args below meth c H' _ ls B hl (st_core (M' := suR M a i.toNatClampNeg (some v)) hh (by omega) hT e1 e2 e3 rfl rfl rfl (fun b hb => rfl) (fun b hb => rfl) (fun b hb => up2_ne hb) (fun h => by omega) (fun h => by omega) (fun _ => ?_)) (hS.put e2 e3 (hh.2.2.1 a (by omega)))
  funext x
  unfold updV suR ddR
  dsimp only
  rw [up2_at]
  by_cases h : x = i.toNatClampNeg <;> simp [h, va_rf]
theorem vv_alen {o : Option Nat} {a t : Nat} {ty : FieldType} (h20 : 20 ≤ t) (h28 : t < 28) (hty : (ty_s X)[t - 20]? = some (X.2.2.1 t, ty)) (ho : o = some a) (hT : ddT M a = t) (hd : decode mi.2.1 pc = .ok (.arraylength, 1)) (K : VV X mi R post (pc + 1) lv (.inl (Int32.ofNat (ddN M a)) :: st) M k n) : VV X mi R post pc lv (.inr (.inr o) :: st) M k n := by
  intro p e s m args below meth c H locs ls B hl hh hS
  subst ho
  have hc : ∃ f, H[a]? = some (arrV (X.2.2.1 t) (ddN M a) f) := by
    rcases (by omega : t = 20 ∨ t = 21 ∨ t = 22 ∨ 23 ≤ t) with rfl | rfl | rfl | h
    · exact ⟨_, (hh.2.2.2.2 a).2.1 hT⟩
    · exact ⟨_, (hh.2.2.2.2 a).2.2.1 hT⟩
    · exact ⟨_, (hh.2.2.2.2 a).2.2.2.1 hT⟩
    · exact ⟨_, (hh.2.2.2.2 a).2.2.2.2 t h hT⟩
  obtain ⟨f, hc⟩ := hc
  exact W.alen (n := Int32.ofNat (ddN M a)) B.1 B.2.1 hc ((B.2.2.2.2.2.2.2.2.1.2 (t - 20) _ hty).1 _ _) (by rw [arrV_size] <;> rfl) rfl rfl hd (K p e s m args below meth c H locs ls B hl hh hS)
/-! the table of tens -/
theorem vv_gets {idx : Nat} (hw : decide (Cond.fieldLink mi.1.cls idx "DialDesk" "TENS" "[J" ∈ lw_tbl) = true) (hd : decode mi.2.1 pc = .ok (.getstatic idx, 3)) (K : VV X mi R post (pc + 3) lv (.inr (.inr (some X.2.2.2.2)) :: st) M k n) : VV X mi R post pc lv st M k n := by
  intro p e s m args below meth c H locs ls B hl hh hS
  exact va_gets B.1 B.2.1 B.2.2.2.2.2.2.2.2.2.1 hS B.2.2.2.2.1 (B.2.2.2.2.2.1 _ (tg_ (of_decide_eq_true hw) rfl)) (fun _ h => h) hd (K p e s m args below meth c H locs ls B hl hh hS)
theorem vv_tlen (hd : decode mi.2.1 pc = .ok (.arraylength, 1)) (K : VV X mi R post (pc + 1) lv (.inl 17 :: st) M k n) : VV X mi R post pc lv (.inr (.inr (some X.2.2.2.2)) :: st) M k n := by
  intro p e s m args below meth c H locs ls B hl hh hS
  exact va_tlen B.1 B.2.1 B.2.2.2.2.2.2.2.2.2.2.1 hS (v := 17) rfl hd (K p e s m args below meth c H locs ls B hl hh hS)
theorem vv_tld {i : Int32} (hi : vp_in i 17) (hd : decode mi.2.1 pc = .ok (.laload, 1)) (K : VV X mi R post (pc + 1) lv (.inr (.inl (te_ i.toNatClampNeg)) :: st) M k n) : VV X mi R post pc lv (.inl i :: .inr (.inr (some X.2.2.2.2)) :: st) M k n := by
  intro p e s m args below meth c H locs ls B hl hh hS
  exact va_tl B.1 B.2.1 B.2.2.2.2.2.2.2.2.2.2.1 hS hi rfl hd (K p e s m args below meth c H locs ls B hl hh hS)
/-! new cells -/
theorem va_S.new_ {A : Nat → Prop} {H0 H H1 : Heap} {locs : List Loc} (hS : va_S A H0 H locs) (z : H1.size = H.size + 1) (o1 : ∀ q, q < H.size → H1[q]? = H[q]?) : va_S A H0 H1 locs :=
  ⟨Nat.le_trans hS.1 (by omega), fun x h1 h2 => (o1 x (Nat.lt_of_lt_of_le h1 hS.1)).trans (hS.2.1 x h1 h2), hS.2.2⟩
theorem su_at (M : Mm) (t len : Nat) : ddT (suN M t len) (ddZ M) = t ∧ ddN (suN M t len) (ddZ M) = len ∧ ddI (suN M t len) (ddZ M) = (fun _ => 0) ∧ ddL (suN M t len) (ddZ M) = (fun _ => 0) ∧ ddR (suN M t len) (ddZ M) = (fun _ => none) := by
  simp [ddT, ddN, ddI, ddL, ddR, suN, up1_]
theorem vv_newa (t N : Nat) (at_ : ArrayType) {z : Int32} (h3 : (t = 20 ∧ at_ = .int) ∨ (t = 21 ∧ at_ = .long) ∨ (t = 22 ∧ at_ = .boolean)) (hw : decide (Cond.arrayClass (newarray.typeOf at_) ∈ lw_tbl) = true) (hz : ¬ z < 0) (hN : z.toNatClampNeg = N) (hb : N * 8 ≤ 536870912) (hk : k + 1 ≤ R.cells) (hn : n + N ≤ R.slots) (hd : decode mi.2.1 pc = .ok (.newarray at_, 2))
    (K : VV X mi R post (pc + 2) lv (.inr (.inr (some (ddZ M))) :: st) (suN M t N) (k + 1) (n + N)) : VV X mi R post pc lv (.inl z :: st) M k n := by
  intro p e s m args below meth c H locs ls B hl hh hS
  refine va_newaK B.1 B.2.1 (B.2.2.2.2.2.1 _ (tg_ (of_decide_eq_true hw) rfl)) rfl hd rfl hz hN ?_ hk hn hh.1 fun H1 cA e1 z1 o1 hAr hNm => ?_
  · rcases h3 with ⟨-, rfl⟩ | ⟨-, rfl⟩ | ⟨-, rfl⟩
    · show N * 4 ≤ _
      omega
    · exact hb
    · show N * 1 ≤ _
      omega
  · have o2 : ∀ q, q < H.size → H1[q]? = H[q]? := fun q hq => o1 q (by rw [← hh.1]; exact hq)
    have z2 : H1.size = H.size + 1 := by rw [z1, hh.1]
    obtain ⟨s1, s2, s3, s4, s5⟩ := su_at M t N
    have hcA : cA = X.2.2.1 t := by
      rcases h3 with ⟨rfl, rfl⟩ | ⟨rfl, rfl⟩ | ⟨rfl, rfl⟩
      · exact Option.some.inj (hNm.symm.trans (B.2.2.2.2.2.2.2.2.1.2 0 _ rfl).2)
      · exact Option.some.inj (hNm.symm.trans (B.2.2.2.2.2.2.2.2.1.2 1 _ rfl).2)
      · exact Option.some.inj (hNm.symm.trans (B.2.2.2.2.2.2.2.2.1.2 2 _ rfl).2)
    refine K p e s m args below meth c H1 locs ls B hl (hp_new hh z2 o2 ?_) (hS.new_ z2 o2)
    unfold hpA
    rw [s1, s2, s3, s4, s5]
    rcases h3 with ⟨rfl, rfl⟩ | ⟨rfl, rfl⟩ | ⟨rfl, rfl⟩
    · exact ⟨fun ci hc hl => by omega, fun _ => by rw [e1, hcA]; rfl, fun h => by omega, fun h => by omega, fun t ht h => by omega⟩
    · exact ⟨fun ci hc hl => by omega, fun h => by omega, fun _ => by rw [e1, hcA]; rfl, fun h => by omega, fun t ht h => by omega⟩
    · exact ⟨fun ci hc hl => by omega, fun h => by omega, fun h => by omega, fun _ => by rw [e1, hcA]; rfl, fun t ht h => by omega⟩
theorem vv_anew (t N : Nat) (cn : String) {z : Int32} {idx : Nat} (ht : 23 ≤ t) (hty : (ty_s X)[t - 20]? = some (X.2.2.1 t, .object cn)) (hw : decide (Cond.classLink mi.1.cls idx cn ∈ lw_tbl) = true) (hw2 : decide (Cond.arrayOver (.object cn) ∈ lw_tbl) = true) (hz : ¬ z < 0) (hN : z.toNatClampNeg = N) (hb : N * 4 ≤ 536870912) (hk : k + 1 ≤ R.cells) (hn : n + N ≤ R.slots) (hd : decode mi.2.1 pc = .ok (.anewarray idx, 3))
    (K : VV X mi R post (pc + 3) lv (.inr (.inr (some (ddZ M))) :: st) (suN M t N) (k + 1) (n + N)) : VV X mi R post pc lv (.inl z :: st) M k n := by
  intro p e s m args below meth c H locs ls B hl hh hS
  subst hN
  refine W.anew B.1 B.2.1 B.2.2.2.2.1 (B.2.2.2.2.2.1 _ (tg_ (of_decide_eq_true hw) rfl)) (va_AO.use (B.2.2.2.2.2.2.2.2.2.2.2.2 cn (of_decide_eq_true hw2))) rfl hd rfl hz hb hk hn fun cA kA comp f1 f2 f3 f4 => ?_
  generalize hH1 : H.push ({ cls := cA, slots := Array.replicate z.toNatClampNeg .null, vm := .none } : Cell) = H1
  have z2 : H1.size = H.size + 1 := by rw [← hH1, Array.size_push]
  have e1 : H1[H.size]? = some (arrV cA z.toNatClampNeg (fun _ => .null)) := by rw [← hH1, Array.getElem?_push_size, ← arrV_new]
  have o2 : ∀ q : Nat, q < H.size → H1[q]? = H[q]? := fun q hq => by rw [← hH1, Array.getElem?_push, if_neg (Nat.ne_of_lt hq)]
  obtain ⟨s1, s2, s3, s4, s5⟩ := su_at M t z.toNatClampNeg
  obtain ⟨kA', comp', -, -, -, k4⟩ := (B.2.2.2.2.2.2.2.2.1.2 (t - 20) _ hty).2
  have hcA : cA = X.2.2.1 t := Option.some.inj (f1.symm.trans k4)
  have hz1 : H.size = ddZ M := hh.1
  have K2 := K p e s m args below meth c H1 locs ls B hl (hp_new hh z2 o2 (by
    unfold hpA
    rw [s1, s2, s3, s4, s5, ← hz1]
    exact ⟨fun ci hc hl => by omega, fun h => by omega, fun h => by omega, fun h => by omega, fun t' ht h => by rw [e1, hcA, h]; rfl⟩)) (hS.new_ z2 o2)
  rw [← hz1] at K2
  exact K2
theorem vv_new (ci : Nat) {idx : Nat} {r : vw_C} (hr : vwCl[ci]? = some r) (hci : ci < 12) (hN : r.2.2 = nf_ ci) (hdf : ∀ j, j < nf_ ci → defaultValue ((parseFieldDescriptor (r.2.1 j).2.2.1).getD .int) = if kd_ ci j = 0 then .int 0 else if kd_ ci j = 1 then .long 0 else .null)
    (hw : decide (Cond.classLink mi.1.cls idx r.1 ∈ lw_tbl) = true) (hw2 : decide (Cond.instantiable r.1 r.2.2 ∈ lw_tbl) = true) (hw3 : decide (Cond.initialized r.1 ∈ lw_tbl) = true) (hk : k + 1 ≤ R.cells) (hn : n + nf_ ci ≤ R.slots) (hd : decode mi.2.1 pc = .ok (.new idx, 3))
    (K : VV X mi R post (pc + 3) lv (.inr (.inr (some (ddZ M))) :: st) (suN M (ci + 1) 0) (k + 1) (n + nf_ ci)) : VV X mi R post pc lv st M k n := by
  intro p e s m args below meth c H locs ls B hl hh hS
  have hKn := B.2.2.2.2.2.2.2.2.1.1 ci r hr
  refine W.newcK B.1 B.2.1 B.2.2.2.2.1 (B.2.2.2.2.2.1 _ (tg_ (of_decide_eq_true hw) rfl)) (B.2.2.2.2.2.1 _ (tg_ (of_decide_eq_true hw2) rfl)) (B.2.2.2.2.2.1 _ (tg_ (of_decide_eq_true hw3) rfl)) rfl hd hk (by rw [hN]; exact hn) hKn.2.1 hh.1 fun H1 kC hkC e1 z1 o1 => ?_
  have o2 : ∀ q, q < H.size → H1[q]? = H[q]? := fun q hq => o1 q (by rw [← hh.1]; exact hq)
  have z2 : H1.size = H.size + 1 := by rw [z1, hh.1]
  obtain ⟨s1, s2, s3, s4, s5⟩ := su_at M (ci + 1) 0
  have hb := u_born (fun k => (parseFieldDescriptor (r.2.1 k).2.2.1).getD .int) B.2.2.2.2.2.1 (cl_in hr) hKn hkC e1 (cl_ty r (List.mem_of_getElem? hr))
  have K2 := K p e s m args below meth c H1 locs ls B hl (hp_new hh z2 o2 (by
    unfold hpA
    rw [s1]
    refine ⟨fun cj hc hl => ?_, fun h => by omega, fun h => by omega, fun h => by omega, fun t ht h => by omega⟩
    have e : cj = ci := by omega
    subst e
    rw [hN] at hb
    refine hb.to (fun j hj => ?_)
    rw [hdf j hj]
    unfold fv_
    rw [s3, s4, s5]
    rfl)) (hS.new_ z2 o2)
  rw [hN]
  exact K2
end RM
end
section
/-- what the tables say of a method that is called -/
def mb_ok (mj : Mi_) (np : Nat) : Bool := decide (Cond.code mj.1 mj.2.1 mj.2.2.1 mj.2.2.2 ∈ lw_tbl) && (goodWord (Cond.code mj.1 mj.2.1 mj.2.2.1 mj.2.2.2) && (decide (Cond.initialized mj.1.cls ∈ lw_tbl) && (decide (mj.1.cls ≠ "java/lang/invoke/MethodHandle") && (decide (mj.1.cls ≠ "java/lang/invoke/VarHandle") && decide ((parseMethodDescriptor mj.1.desc).map (fun d => d.parameters.length) = some np)))))
theorem mb_spec {mj : Mi_} {np : Nat} (h : mb_ok mj np = true) : (∀ w ∈ wm_ mj, w ∈ lw_tbg) ∧ Cond.initialized mj.1.cls ∈ lw_tbg ∧ mj.1.cls ≠ "java/lang/invoke/MethodHandle" ∧ mj.1.cls ≠ "java/lang/invoke/VarHandle" ∧ (parseMethodDescriptor mj.1.desc).map (fun d => d.parameters.length) = some np := by
  unfold mb_ok at h
  simp only [Bool.and_eq_true, decide_eq_true_eq] at h
  obtain ⟨a1, a2, a3, a4⟩ := h
  refine ⟨fun w hw => ?_, tg_ a3 rfl, a4⟩
  rcases List.mem_cons.mp hw with e | e
  · rw [e]
    exact tg_ a1 a2
  · exact e
theorem bl_ {X : Cx_} {M : Mm} {av : List Value} : FrameBlind (va_Pc av (fun U => hp_ X M U.heap ∧ K_x X U)) := by
  intro a U g mk q
  obtain ⟨q0, q1, q2⟩ := q
  exact ⟨q0, q1, K_x.moved (U := U.calling g mk a) q2 (va_S.rf (H0 := U.heap)) (State.WarmedH.refl U) rfl⟩
section RC
variable {X : Cx_} {mi : Mi_} {R : Room} {post : Option Sm → Mm → Prop} {pc : Nat} {lv : List (Nat × Sm)} {M : Mm} {k n : Nat} {mj : Mi_} {Rj : Room} {pj : Option Sm → Mm → Prop} {np idx : Nat} {As rest : List Sm}
theorem rs_room {m : MethodId} {ls : Array Slot} {rest : List Sm} {st : List Value} (h : ln_ rest ≤ 8) : 2 * (F0 m pc ls st).monitorRoom + ((rest.map tv_).map fun v => v.category).sum ≤ 8 := by
  refine lv_room ?_
  refine Nat.le_trans (Nat.le_of_eq ?_) h
  clear h
  induction rest with
  | nil => rfl
  | cons v vs ih =>
    show (tv_ v).category + (((vs.map tv_).map fun v => v.category).sum) = (if lg2_ v then 2 else 1) + ln_ vs
    rw [ih, tv_cat]
/-- behind a call -/
theorem af_ {p : Program} {e : Env} {s : State} {m : MethodId} {args : Array Value} {below : List Frame} {meth : Method} {c : Code} {H : Heap} {locs : List Loc} {ls : Array Slot} {st0 : List Value} {a : Array Value}
    (B : Bd_ X mi p s m args meth c) (hl : lv_has ls mi.2.2.1 (lm_ lv)) (hS : va_S (A_x X) s.heap H locs)
    (hr : va_Run p X.1 e R s m args below meth c H locs k n Rj.cells Rj.slots (F0 m pc ls st0) (rest.map tv_) (Qp_ X pj a) (A_x X))
    (K : ∀ r M', pj r M' → VV X mi R post (pc + 3) lv (r.toList ++ rest) M' (k + Rj.cells) (n + Rj.slots)) : W p X.1 e R s m args below meth c H locs k n (MQ below (Qp_ X post) args s R.cells R.slots (A_x X)) (F0 m pc ls st0) := by
  intro T hT Y
  obtain ⟨v, st₀, t, T', L, h0, Y', hL, e1, e2, ⟨⟨r, M', hv, hp, hb⟩, hz, hk⟩, sx⟩ := hr T hT Y
  have hv2 : v = r.map tv_ := by injection hv
  subst hv2
  rw [h0] at hz hk
  have hS' : va_S (A_x X) s.heap t.heap (locs ++ L) := ⟨Nat.le_trans hS.1 hz, fun q h1 h2 => by rw [hk q (Nat.lt_of_lt_of_le h1 hS.1) h2]; exact hS.2.1 q h1 h2, fun q hq => by
      rcases List.mem_append.mp hq with h | h
      · exact hS.2.2 q h
      · exact hL q h⟩
  have hW := K r M' hp p e s m args below meth c t.heap (locs ++ L) ls B hl hb hS'
  have hst : (r.toList ++ rest).map tv_ = (r.map tv_).toList ++ rest.map tv_ := by cases r <;> rfl
  rw [hst] at hW
  obtain ⟨t2, a1, b1⟩ := hW T' e1 Y'
  exact ⟨t2, sx t2 a1, b1⟩
theorem pc_ {s U : State} {H : Heap} {locs : List Loc} {av : List Sm} (hK : K_x X s) (hh : hp_ X M H) (hS : va_S (A_x X) s.heap H locs) (hU : U.heap = H) (hW : s.WarmedH U.vm) : va_Pc (av.map tv_) (fun U => hp_ X M U.heap ∧ K_x X U) (av.map tv_).toArray U := ⟨rfl, by rw [hU]; exact hh, K_x.moved hK hS hW hU⟩
theorem vv_callV {o : Option Nat} {a ci : Nat} (C : CT X mj Rj (.inr (.inr (some a)) :: As) M pj) (hd : decode mi.2.1 pc = .ok (.invokevirtual idx, 3)) (ho : o = some a) (hT : ddT M a = ci + 1) (hci : ci < 12) (hcl : vwCl[ci]?.map (fun r => r.1) = some mj.1.cls) (hb : mb_ok mj np = true) (hlen : As.length = np)
    (hw1 : decide (Cond.methodLink mi.1.cls idx mj.1 ∈ lw_tbl) = true) (hw2 : decide (Cond.instanceMethod mj.1 ∈ lw_tbl) = true) (hw3 : decide (Cond.selects mj.1.cls mj.1 mj.1 ∈ lw_tbl) = true) (hrm : Rj.frames + 1 ≤ R.frames ∧ 8 + (mj.2.2.1 + 11) + Rj.locals ≤ R.locals) (hf : k + Rj.cells ≤ R.cells ∧ n + Rj.slots ≤ R.slots) (hs : ln_ rest ≤ 8)
    (st : List Sm) (hst : st = As.reverse ++ .inr (.inr o) :: rest) (K : ∀ r M', pj r M' → VV X mi R post (pc + 3) lv (r.toList ++ rest) M' (k + Rj.cells) (n + Rj.slots)) : VV X mi R post pc lv st M k n := by
  intro p e s m args below meth c H locs ls B hl hh hS
  subst ho
  subst hst
  obtain ⟨m1, m2, m3⟩ := mb_spec hb
  obtain ⟨cell, q1, q2, q3, q4⟩ := (hh.2.2.2.2 a).1 ci hT hci
  obtain ⟨r0, hr0, hr1⟩ : ∃ r0, vwCl[ci]? = some r0 ∧ r0.1 = mj.1.cls := by
    cases hz : vwCl[ci]? with
    | none => rw [hz] at hcl; cases hcl
    | some r0 => rw [hz] at hcl; exact ⟨r0, rfl, Option.some.inj hcl⟩
  have hfc := (B.2.2.2.2.2.2.2.2.1.1 ci r0 hr0).2.1
  refine af_ B hl hS (va_runV (b := a) (C := mj.1.cls) (As := As.map tv_) (rest := rest.map tv_) (nL := mi.2.2.1) (n := np) (Ts := lw_tbg) (own := mi.1.cls) ⟨B.1, B.2.1, B.2.2.2.1, B.2.2.2.2.1, B.2.2.2.2.2.1⟩ C (cwV np B.2.2.2.2.2.1 (lw_goodIn (fun w hw => ?_)) rfl rfl rfl ⟨rfl, m3⟩ hrm) ⟨bl_, ⟨cell, q1, by rw [q3]; rfl, by rw [q2, ← hr1]; exact hfc⟩, fun U hU hW => pc_ B.2.2.2.2.2.2.2.2 hh hS hU hW⟩ rfl (by rw [List.length_map]; exact hlen) hl.1 (by simp [tv_, va_rf]) (rs_room hs) hd hf) K
  unfold wsV at hw
  rcases List.mem_append.mp hw with h | h
  · simp only [List.mem_cons, List.not_mem_nil, or_false] at h
    rcases h with rfl | rfl | rfl | rfl
    · exact tg_ (of_decide_eq_true hw1) rfl
    · exact tg_ (of_decide_eq_true hw2) rfl
    · exact tg_ (of_decide_eq_true hw3) rfl
    · exact m2
  · exact m1 w h
theorem vv_callS (C : CT X mj Rj As M pj) (hd : decode mi.2.1 pc = .ok (.invokestatic idx, 3)) (hb : mb_ok mj np = true) (hlen : As.length = np)
    (hw1 : decide (Cond.methodLink mi.1.cls idx mj.1 ∈ lw_tbl) = true) (hw2 : decide (Cond.static mj.1 ∈ lw_tbl) = true) (hrm : Rj.frames + 1 ≤ R.frames ∧ 8 + (mj.2.2.1 + 11) + Rj.locals ≤ R.locals) (hf : k + Rj.cells ≤ R.cells ∧ n + Rj.slots ≤ R.slots) (hs : ln_ rest ≤ 8)
    (st : List Sm) (hst : st = As.reverse ++ rest) (K : ∀ r M', pj r M' → VV X mi R post (pc + 3) lv (r.toList ++ rest) M' (k + Rj.cells) (n + Rj.slots)) : VV X mi R post pc lv st M k n := by
  intro p e s m args below meth c H locs ls B hl hh hS
  subst hst
  obtain ⟨m1, m2, m3⟩ := mb_spec hb
  refine af_ B hl hS (va_runS (As := As.map tv_) (rest := rest.map tv_) (nL := mi.2.2.1) (n := np) (Ts := lw_tbg) (own := mi.1.cls) ⟨B.1, B.2.1, B.2.2.2.1, B.2.2.2.2.1, B.2.2.2.2.2.1⟩ C (va_cwS np B.2.2.2.2.2.1 (lw_goodIn (fun w hw => ?_)) rfl rfl rfl m3 hrm) ⟨bl_, fun U hU hW => pc_ B.2.2.2.2.2.2.2.2 hh hS hU hW⟩ rfl (by rw [List.length_map]; exact hlen) hl.1 (by simp) (rs_room hs) hd hf) K
  unfold va_wsS at hw
  rcases List.mem_append.mp hw with h | h
  · simp only [List.mem_cons, List.not_mem_nil, or_false] at h
    rcases h with rfl | rfl | rfl
    · exact tg_ (of_decide_eq_true hw1) rfl
    · exact tg_ (of_decide_eq_true hw2) rfl
    · exact m2
  · exact m1 w h
theorem vv_callI {o : Option Nat} {a : Nat} (C : CT X mj Rj (.inr (.inr (some a)) :: As) M pj) (hd : decode mi.2.1 pc = .ok (.invokespecial idx, 3)) (ho : o = some a) (hret : mj.2.2.2 = none) (hnm : mj.1.name = "<init>") (hb : mb_ok mj np = true) (hlen : As.length = np)
    (hw1 : decide (Cond.methodLink mi.1.cls idx mj.1 ∈ lw_tbl) = true) (hw2 : decide (Cond.instanceMethod mj.1 ∈ lw_tbl) = true) (hrm : Rj.frames + 1 ≤ R.frames ∧ 8 + (mj.2.2.1 + 11) + Rj.locals ≤ R.locals) (hf : k + Rj.cells ≤ R.cells ∧ n + Rj.slots ≤ R.slots) (hs : ln_ rest ≤ 8)
    (st : List Sm) (hst : st = As.reverse ++ .inr (.inr o) :: rest) (K : ∀ r M', pj r M' → VV X mi R post (pc + 3) lv (r.toList ++ rest) M' (k + Rj.cells) (n + Rj.slots)) : VV X mi R post pc lv st M k n := by
  intro p e s m args below meth c H locs ls B hl hh hS
  subst ho
  subst hst
  obtain ⟨m1, m2, m3⟩ := mb_spec hb
  refine af_ B hl hS (va_runI (b := a) (As := As.map tv_) (rest := rest.map tv_) (nL := mi.2.2.1) (n := np) (bytes := mj.2.1) (maxL := mj.2.2.1) (Ts := lw_tbg) (own := mi.1.cls) ⟨B.1, B.2.1, B.2.2.2.1, B.2.2.2.2.1, B.2.2.2.2.2.1⟩ C (cwI np B.2.2.2.2.2.1 (lw_goodIn m1) (by unfold wm_; rw [hret]) rfl rfl (B.2.2.2.2.2.1 _ m2) (B.2.2.2.2.2.1 _ (tg_ (of_decide_eq_true hw1) rfl)) (B.2.2.2.2.2.1 _ (tg_ (of_decide_eq_true hw2) rfl)) hnm m3 hrm) ⟨bl_, fun U hU hW => pc_ (av := .inr (.inr (some a)) :: As) B.2.2.2.2.2.2.2.2 hh hS hU hW⟩ rfl (by rw [List.length_map]; exact hlen) hl.1 (by simp [tv_, va_rf]) (rs_room hs) hd hf) K
/-! private methods and constructors of a nest mate -/
theorem vv_callSN {host : String} (C : CT X mj Rj As M pj) (hd : decode mi.2.1 pc = .ok (.invokestatic idx, 3)) (hb : mb_ok mj np = true) (hlen : As.length = np)
    (hw1 : decide (Cond.methodLinkNest mi.1.cls idx mj.1 host ∈ lw_tbl) = true) (hw2 : decide (Cond.static mj.1 ∈ lw_tbl) = true) (hrm : Rj.frames + 1 ≤ R.frames ∧ 8 + (mj.2.2.1 + 11) + Rj.locals ≤ R.locals) (hf : k + Rj.cells ≤ R.cells ∧ n + Rj.slots ≤ R.slots) (hs : ln_ rest ≤ 8)
    (st : List Sm) (hst : st = As.reverse ++ rest) (K : ∀ r M', pj r M' → VV X mi R post (pc + 3) lv (r.toList ++ rest) M' (k + Rj.cells) (n + Rj.slots)) : VV X mi R post pc lv st M k n := by
  intro p e s m args below meth c H locs ls B hl hh hS
  subst hst
  obtain ⟨m1, m2, m3⟩ := mb_spec hb
  exact af_ B hl hS (va_runSN (host := host) (As := As.map tv_) (rest := rest.map tv_) (nL := mi.2.2.1) (n := np) (Ts := lw_tbg) (own := mi.1.cls) ⟨B.1, B.2.1, B.2.2.2.1, B.2.2.2.2.1, B.2.2.2.2.2.1⟩ C ⟨va_cnB np B.2.2.2.2.2.1 (lw_goodIn m1) rfl rfl rfl (B.2.2.2.2.2.2.2.2.2.2.2.1 _ _ _ _ (of_decide_eq_true hw1)) (B.2.2.2.2.2.1 _ m2) m3 hrm, B.2.2.2.2.2.1 _ (tg_ (of_decide_eq_true hw2) rfl), trivial⟩ ⟨bl_, fun U hU hW => pc_ B.2.2.2.2.2.2.2.2 hh hS hU hW⟩ rfl (by rw [List.length_map]; exact hlen) hl.1 (by simp) (rs_room hs) hd hf) K
theorem vv_callIN {host : String} {o : Option Nat} {a : Nat} (C : CT X mj Rj (.inr (.inr (some a)) :: As) M pj) (hd : decode mi.2.1 pc = .ok (.invokespecial idx, 3)) (ho : o = some a) (hret : mj.2.2.2 = none) (hnm : mj.1.name = "<init>") (hb : mb_ok mj np = true) (hlen : As.length = np)
    (hw1 : decide (Cond.methodLinkNest mi.1.cls idx mj.1 host ∈ lw_tbl) = true) (hw2 : decide (Cond.instanceMethod mj.1 ∈ lw_tbl) = true) (hrm : Rj.frames + 1 ≤ R.frames ∧ 8 + (mj.2.2.1 + 11) + Rj.locals ≤ R.locals) (hf : k + Rj.cells ≤ R.cells ∧ n + Rj.slots ≤ R.slots) (hs : ln_ rest ≤ 8)
    (st : List Sm) (hst : st = As.reverse ++ .inr (.inr o) :: rest) (K : ∀ r M', pj r M' → VV X mi R post (pc + 3) lv (r.toList ++ rest) M' (k + Rj.cells) (n + Rj.slots)) : VV X mi R post pc lv st M k n := by
  intro p e s m args below meth c H locs ls B hl hh hS
  subst ho
  subst hst
  obtain ⟨m1, m2, m3⟩ := mb_spec hb
  exact af_ B hl hS (va_runIN (host := host) (b := a) (As := As.map tv_) (rest := rest.map tv_) (nL := mi.2.2.1) (n := np) (bytes := mj.2.1) (maxL := mj.2.2.1) (Ts := lw_tbg) (own := mi.1.cls) ⟨B.1, B.2.1, B.2.2.2.1, B.2.2.2.2.1, B.2.2.2.2.2.1⟩ C ⟨va_cnB np B.2.2.2.2.2.1 (lw_goodIn m1) (by unfold wm_; rw [hret]) rfl rfl (B.2.2.2.2.2.2.2.2.2.2.2.1 _ _ _ _ (of_decide_eq_true hw1)) (B.2.2.2.2.2.1 _ m2) m3 hrm, hnm, B.2.2.2.2.2.1 _ (tg_ (of_decide_eq_true hw2) rfl)⟩ ⟨bl_, fun U hU hW => pc_ (av := .inr (.inr (some a)) :: As) B.2.2.2.2.2.2.2.2 hh hS hU hW⟩ rfl (by rw [List.length_map]; exact hlen) hl.1 (by simp [tv_, va_rf]) (rs_room hs) hd hf) K
theorem vv_objInit {a : Nat} (hd : decode mi.2.1 pc = .ok (.invokespecial idx, 3)) (hw1 : decide (Cond.methodLink mi.1.cls idx objectInit ∈ lw_tbl) = true) (hw2 : decide (Cond.instanceMethod objectInit ∈ lw_tbl) = true) (hw3 : decide (Cond.code objectInit ⟨#[0xb1]⟩ 1 none ∈ lw_tbl) = true) (hr1 : 1 ≤ R.frames) (hr2 : ln_ rest + 12 ≤ R.locals) (hs : ln_ rest ≤ 8)
    (K : VV X mi R post (pc + 3) lv rest M k n) : VV X mi R post pc lv (.inr (.inr (some a)) :: rest) M k n := by
  intro p e s m args below meth c H locs ls B hl hh hS
  have hrr := rs_room (m := m) (pc := pc) (ls := ls) (st := (.inr (.inr (some a)) :: rest : List Sm).map tv_) hs
  refine W.objInit B.1 B.2.1 B.2.2.2.2.1 (B.2.2.2.2.2.1 _ (tg_ (of_decide_eq_true hw1) rfl)) (B.2.2.2.2.2.1 _ (tg_ (of_decide_eq_true hw2) rfl)) (B.2.2.2.2.2.1 _ (tg_ (of_decide_eq_true hw3) rfl)) rfl (by rw [B.2.2.2.1]; exact hl.1) rfl hd hr1 ?_ (K p e s m args below meth c H locs ls B hl hh hS)
  have e2 : ((rest.map tv_).map fun v => v.category).sum = ln_ rest := by
    clear hrr hr2 hs K
    induction rest with
    | nil => rfl
    | cons v vs ih =>
      show (tv_ v).category + (((vs.map tv_).map fun v => v.category).sum) = (if lg2_ v then 2 else 1) + ln_ vs
      rw [ih, tv_cat]
  rw [e2]
  show 2 * 0 + ln_ rest + 12 ≤ R.locals
  omega
/-! the answer, by its kind -/
theorem kI_ {P : Int32 → Mm → Prop} {F : List Sm → Mm → Prop} {rest : List Sm} (K : ∀ v M', P v M' → F (.inl v :: rest) M') : ∀ r M', pI_ P r M' → F (Option.toList r ++ rest) M'
  | some (.inl v), M', h => K v M' h
  | some (.inr (.inl _)), _, h => h.elim
  | some (.inr (.inr _)), _, h => h.elim
  | none, _, h => h.elim
theorem kL_ {P : Int64 → Mm → Prop} {F : List Sm → Mm → Prop} {rest : List Sm} (K : ∀ v M', P v M' → F (.inr (.inl v) :: rest) M') : ∀ r M', pL_ P r M' → F (Option.toList r ++ rest) M'
  | some (.inl _), _, h => h.elim
  | some (.inr (.inl v)), M', h => K v M' h
  | some (.inr (.inr _)), _, h => h.elim
  | none, _, h => h.elim
theorem kR_ {P : Option Nat → Mm → Prop} {F : List Sm → Mm → Prop} {rest : List Sm} (K : ∀ v M', P v M' → F (.inr (.inr v) :: rest) M') : ∀ r M', pR_ P r M' → F (Option.toList r ++ rest) M'
  | some (.inl _), _, h => h.elim
  | some (.inr (.inl _)), _, h => h.elim
  | some (.inr (.inr v)), M', h => K v M' h
  | none, _, h => h.elim
theorem kV_ {P : Mm → Prop} {F : List Sm → Mm → Prop} {rest : List Sm} (K : ∀ M', P M' → F rest M') : ∀ r M', pV_ P r M' → F (Option.toList r ++ rest) M'
  | some _, _, h => h.elim
  | none, M', h => K M' h
end RC
end
