-- ===== PART A: goes FIRST, ahead of the names: the tables' words, and 'selects' of the private methods out of them =====
/-- a private method of a class that the tables say can be made, by its rows of tables_1 -/
def lw_okq (q : MethodName × Nat) : Prop := (q.1.cls ≠ "java/lang/invoke/MethodHandle" ∧ q.1.cls ≠ "java/lang/invoke/VarHandle") ∧ Cond.instantiable q.1.cls q.2 ∈ tables_1 ∧ Cond.privateMethod q.1 ∈ tables_1 ∧ Cond.instanceMethod q.1 ∈ tables_1
theorem lw_p0 : lw_okq (⟨"DialDesk", "isDayToCome", "(I)Z"⟩, 5) := ⟨⟨by decide +kernel, by decide +kernel⟩, List.mem_of_getElem? (i := 17) (by decide +kernel), List.mem_of_getElem? (i := 196) (by decide +kernel), List.mem_of_getElem? (i := 197) (by decide +kernel)⟩
theorem lw_p1 : lw_okq (⟨"DialDesk", "canChange", "(LDialDesk$Entry;II)Z"⟩, 5) := ⟨⟨by decide +kernel, by decide +kernel⟩, List.mem_of_getElem? (i := 17) (by decide +kernel), List.mem_of_getElem? (i := 366) (by decide +kernel), List.mem_of_getElem? (i := 367) (by decide +kernel)⟩
theorem lw_p2 : lw_okq (⟨"DialDesk$Plan", "appendFrom", "(LDialDesk$Entry;LDialDesk$Entry;I)V"⟩, 5) := ⟨⟨by decide +kernel, by decide +kernel⟩, List.mem_of_getElem? (i := 25) (by decide +kernel), List.mem_of_getElem? (i := 379) (by decide +kernel), List.mem_of_getElem? (i := 380) (by decide +kernel)⟩
theorem lw_p3 : lw_okq (⟨"DialDesk$Plan", "noteInForce", "(I)V"⟩, 5) := ⟨⟨by decide +kernel, by decide +kernel⟩, List.mem_of_getElem? (i := 25) (by decide +kernel), List.mem_of_getElem? (i := 410) (by decide +kernel), List.mem_of_getElem? (i := 411) (by decide +kernel)⟩
theorem lw_p4 : lw_okq (⟨"DialDesk$Plan", "pairsOf", "(LDialDesk$Entry;)I"⟩, 5) := ⟨⟨by decide +kernel, by decide +kernel⟩, List.mem_of_getElem? (i := 25) (by decide +kernel), List.mem_of_getElem? (i := 418) (by decide +kernel), List.mem_of_getElem? (i := 419) (by decide +kernel)⟩
theorem lw_p5 : lw_okq (⟨"DialDesk$Plan", "partnerOf", "(LDialDesk$Entry;II)I"⟩, 5) := ⟨⟨by decide +kernel, by decide +kernel⟩, List.mem_of_getElem? (i := 25) (by decide +kernel), List.mem_of_getElem? (i := 436) (by decide +kernel), List.mem_of_getElem? (i := 437) (by decide +kernel)⟩
theorem lw_p6 : lw_okq (⟨"DialDesk$Entry", "nextFor", "(I)LDialDesk$Entry;"⟩, 18) := ⟨⟨by decide +kernel, by decide +kernel⟩, List.mem_of_getElem? (i := 216) (by decide +kernel), List.mem_of_getElem? (i := 470) (by decide +kernel), List.mem_of_getElem? (i := 471) (by decide +kernel)⟩
theorem lw_p7 : lw_okq (⟨"DialDesk", "callWith", "(I)LDialDesk$Call;"⟩, 5) := ⟨⟨by decide +kernel, by decide +kernel⟩, List.mem_of_getElem? (i := 17) (by decide +kernel), List.mem_of_getElem? (i := 566) (by decide +kernel), List.mem_of_getElem? (i := 567) (by decide +kernel)⟩
theorem lw_p8 : lw_okq (⟨"DialDesk", "tellOfLead", "(LDialDesk$Call;I)I"⟩, 5) := ⟨⟨by decide +kernel, by decide +kernel⟩, List.mem_of_getElem? (i := 17) (by decide +kernel), List.mem_of_getElem? (i := 622) (by decide +kernel), List.mem_of_getElem? (i := 623) (by decide +kernel)⟩
theorem lw_p9 : lw_okq (⟨"DialDesk", "tellOfRest", "(LDialDesk$Call;I)I"⟩, 5) := ⟨⟨by decide +kernel, by decide +kernel⟩, List.mem_of_getElem? (i := 17) (by decide +kernel), List.mem_of_getElem? (i := 649) (by decide +kernel), List.mem_of_getElem? (i := 650) (by decide +kernel)⟩
theorem lw_p10 : lw_okq (⟨"DialDesk$Supply", "noteLacks", "(LDialDesk$Demand;II)V"⟩, 7) := ⟨⟨by decide +kernel, by decide +kernel⟩, List.mem_of_getElem? (i := 123) (by decide +kernel), List.mem_of_getElem? (i := 754) (by decide +kernel), List.mem_of_getElem? (i := 755) (by decide +kernel)⟩
theorem lw_p11 : lw_okq (⟨"DialDesk$Supply", "nextTurnWithOptions", "(II)I"⟩, 7) := ⟨⟨by decide +kernel, by decide +kernel⟩, List.mem_of_getElem? (i := 123) (by decide +kernel), List.mem_of_getElem? (i := 758) (by decide +kernel), List.mem_of_getElem? (i := 759) (by decide +kernel)⟩
theorem lw_p12 : lw_okq (⟨"DialDesk$Supply", "usableFor", "(II)I"⟩, 7) := ⟨⟨by decide +kernel, by decide +kernel⟩, List.mem_of_getElem? (i := 123) (by decide +kernel), List.mem_of_getElem? (i := 769) (by decide +kernel), List.mem_of_getElem? (i := 770) (by decide +kernel)⟩
theorem lw_p13 : lw_okq (⟨"DialDesk$Supply", "costOf", "(I)I"⟩, 7) := ⟨⟨by decide +kernel, by decide +kernel⟩, List.mem_of_getElem? (i := 123) (by decide +kernel), List.mem_of_getElem? (i := 777) (by decide +kernel), List.mem_of_getElem? (i := 778) (by decide +kernel)⟩
theorem lw_p14 : lw_okq (⟨"DialDesk$Supply", "coversLacks", "(I)Z"⟩, 7) := ⟨⟨by decide +kernel, by decide +kernel⟩, List.mem_of_getElem? (i := 123) (by decide +kernel), List.mem_of_getElem? (i := 783) (by decide +kernel), List.mem_of_getElem? (i := 784) (by decide +kernel)⟩
theorem lw_p15 : lw_okq (⟨"DialDesk$Supply", "roomBy", "(II)J"⟩, 7) := ⟨⟨by decide +kernel, by decide +kernel⟩, List.mem_of_getElem? (i := 123) (by decide +kernel), List.mem_of_getElem? (i := 787) (by decide +kernel), List.mem_of_getElem? (i := 788) (by decide +kernel)⟩
def lw_privs_1 : List (MethodName × Nat) := [(⟨"DialDesk", "isDayToCome", "(I)Z"⟩, 5), (⟨"DialDesk", "canChange", "(LDialDesk$Entry;II)Z"⟩, 5), (⟨"DialDesk$Plan", "appendFrom", "(LDialDesk$Entry;LDialDesk$Entry;I)V"⟩, 5), (⟨"DialDesk$Plan", "noteInForce", "(I)V"⟩, 5), (⟨"DialDesk$Plan", "pairsOf", "(LDialDesk$Entry;)I"⟩, 5), (⟨"DialDesk$Plan", "partnerOf", "(LDialDesk$Entry;II)I"⟩, 5), (⟨"DialDesk$Entry", "nextFor", "(I)LDialDesk$Entry;"⟩, 18), (⟨"DialDesk", "callWith", "(I)LDialDesk$Call;"⟩, 5), (⟨"DialDesk", "tellOfLead", "(LDialDesk$Call;I)I"⟩, 5), (⟨"DialDesk", "tellOfRest", "(LDialDesk$Call;I)I"⟩, 5), (⟨"DialDesk$Supply", "noteLacks", "(LDialDesk$Demand;II)V"⟩, 7), (⟨"DialDesk$Supply", "nextTurnWithOptions", "(II)I"⟩, 7), (⟨"DialDesk$Supply", "usableFor", "(II)I"⟩, 7), (⟨"DialDesk$Supply", "costOf", "(I)I"⟩, 7), (⟨"DialDesk$Supply", "coversLacks", "(I)Z"⟩, 7), (⟨"DialDesk$Supply", "roomBy", "(II)J"⟩, 7)]
theorem lw_r1 : ∀ q ∈ lw_privs_1, lw_okq q := List.forall_mem_cons.mpr ⟨lw_p0, List.forall_mem_cons.mpr ⟨lw_p1, List.forall_mem_cons.mpr ⟨lw_p2, List.forall_mem_cons.mpr ⟨lw_p3, List.forall_mem_cons.mpr ⟨lw_p4, List.forall_mem_cons.mpr ⟨lw_p5, List.forall_mem_cons.mpr ⟨lw_p6, List.forall_mem_cons.mpr ⟨lw_p7, List.forall_mem_cons.mpr ⟨lw_p8, List.forall_mem_cons.mpr ⟨lw_p9, List.forall_mem_cons.mpr ⟨lw_p10, List.forall_mem_cons.mpr ⟨lw_p11, List.forall_mem_cons.mpr ⟨lw_p12, List.forall_mem_cons.mpr ⟨lw_p13, List.forall_mem_cons.mpr ⟨lw_p14, List.forall_mem_cons.mpr ⟨lw_p15, fun _ h => absurd h List.not_mem_nil⟩⟩⟩⟩⟩⟩⟩⟩⟩⟩⟩⟩⟩⟩⟩⟩
theorem lw_p16 : lw_okq (⟨"DialDesk$Supply", "isWithoutPair", "(I)Z"⟩, 7) := ⟨⟨by decide +kernel, by decide +kernel⟩, List.mem_of_getElem? (i := 123) (by decide +kernel), List.mem_of_getElem? (i := 792) (by decide +kernel), List.mem_of_getElem? (i := 793) (by decide +kernel)⟩
theorem lw_p17 : lw_okq (⟨"DialDeskModel", "mayBlock", "(IIIII)Z"⟩, 38) := ⟨⟨by decide +kernel, by decide +kernel⟩, List.mem_of_getElem? (i := 818) (by decide +kernel), List.mem_of_getElem? (i := 952) (by decide +kernel), List.mem_of_getElem? (i := 953) (by decide +kernel)⟩
theorem lw_p18 : lw_okq (⟨"DialDeskModel", "isFree", "(I)Z"⟩, 38) := ⟨⟨by decide +kernel, by decide +kernel⟩, List.mem_of_getElem? (i := 818) (by decide +kernel), List.mem_of_getElem? (i := 968) (by decide +kernel), List.mem_of_getElem? (i := 969) (by decide +kernel)⟩
theorem lw_p19 : lw_okq (⟨"DialDeskModel", "add", "(IIIIIIIII)I"⟩, 38) := ⟨⟨by decide +kernel, by decide +kernel⟩, List.mem_of_getElem? (i := 818) (by decide +kernel), List.mem_of_getElem? (i := 972) (by decide +kernel), List.mem_of_getElem? (i := 973) (by decide +kernel)⟩
theorem lw_p20 : lw_okq (⟨"DialDeskModel", "put", "(IIIIIIIII)I"⟩, 38) := ⟨⟨by decide +kernel, by decide +kernel⟩, List.mem_of_getElem? (i := 818) (by decide +kernel), List.mem_of_getElem? (i := 976) (by decide +kernel), List.mem_of_getElem? (i := 977) (by decide +kernel)⟩
theorem lw_p21 : lw_okq (⟨"DialDeskModel", "numbersOf", "(I)J"⟩, 38) := ⟨⟨by decide +kernel, by decide +kernel⟩, List.mem_of_getElem? (i := 818) (by decide +kernel), List.mem_of_getElem? (i := 980) (by decide +kernel), List.mem_of_getElem? (i := 981) (by decide +kernel)⟩
theorem lw_p22 : lw_okq (⟨"DialDeskModel", "isEntry", "(I)Z"⟩, 38) := ⟨⟨by decide +kernel, by decide +kernel⟩, List.mem_of_getElem? (i := 818) (by decide +kernel), List.mem_of_getElem? (i := 999) (by decide +kernel), List.mem_of_getElem? (i := 1000) (by decide +kernel)⟩
theorem lw_p23 : lw_okq (⟨"DialDeskModel", "mayEnd", "(II)Z"⟩, 38) := ⟨⟨by decide +kernel, by decide +kernel⟩, List.mem_of_getElem? (i := 818) (by decide +kernel), List.mem_of_getElem? (i := 1003) (by decide +kernel), List.mem_of_getElem? (i := 1004) (by decide +kernel)⟩
theorem lw_p24 : lw_okq (⟨"DialDeskModel", "mayChange", "(III)Z"⟩, 38) := ⟨⟨by decide +kernel, by decide +kernel⟩, List.mem_of_getElem? (i := 818) (by decide +kernel), List.mem_of_getElem? (i := 1011) (by decide +kernel), List.mem_of_getElem? (i := 1012) (by decide +kernel)⟩
theorem lw_p25 : lw_okq (⟨"DialDeskModel", "park", "(IIIIII)V"⟩, 38) := ⟨⟨by decide +kernel, by decide +kernel⟩, List.mem_of_getElem? (i := 818) (by decide +kernel), List.mem_of_getElem? (i := 1016) (by decide +kernel), List.mem_of_getElem? (i := 1017) (by decide +kernel)⟩
theorem lw_p26 : lw_okq (⟨"DialDeskModel", "isForce", "(II)Z"⟩, 38) := ⟨⟨by decide +kernel, by decide +kernel⟩, List.mem_of_getElem? (i := 818) (by decide +kernel), List.mem_of_getElem? (i := 1035) (by decide +kernel), List.mem_of_getElem? (i := 1036) (by decide +kernel)⟩
theorem lw_p27 : lw_okq (⟨"DialDeskModel", "isPair", "(II)Z"⟩, 38) := ⟨⟨by decide +kernel, by decide +kernel⟩, List.mem_of_getElem? (i := 818) (by decide +kernel), List.mem_of_getElem? (i := 1039) (by decide +kernel), List.mem_of_getElem? (i := 1040) (by decide +kernel)⟩
theorem lw_p28 : lw_okq (⟨"DialDeskModel", "begins", "(II)Z"⟩, 38) := ⟨⟨by decide +kernel, by decide +kernel⟩, List.mem_of_getElem? (i := 818) (by decide +kernel), List.mem_of_getElem? (i := 1043) (by decide +kernel), List.mem_of_getElem? (i := 1044) (by decide +kernel)⟩
theorem lw_p29 : lw_okq (⟨"DialDeskModel", "may", "(II)I"⟩, 38) := ⟨⟨by decide +kernel, by decide +kernel⟩, List.mem_of_getElem? (i := 818) (by decide +kernel), List.mem_of_getElem? (i := 1047) (by decide +kernel), List.mem_of_getElem? (i := 1048) (by decide +kernel)⟩
theorem lw_p30 : lw_okq (⟨"DialDeskModel", "lineOn", "(IJI)I"⟩, 38) := ⟨⟨by decide +kernel, by decide +kernel⟩, List.mem_of_getElem? (i := 818) (by decide +kernel), List.mem_of_getElem? (i := 1062) (by decide +kernel), List.mem_of_getElem? (i := 1063) (by decide +kernel)⟩
theorem lw_p31 : lw_okq (⟨"DialDeskModel", "blockOf", "(II)I"⟩, 38) := ⟨⟨by decide +kernel, by decide +kernel⟩, List.mem_of_getElem? (i := 818) (by decide +kernel), List.mem_of_getElem? (i := 1066) (by decide +kernel), List.mem_of_getElem? (i := 1067) (by decide +kernel)⟩
def lw_privs_2 : List (MethodName × Nat) := [(⟨"DialDesk$Supply", "isWithoutPair", "(I)Z"⟩, 7), (⟨"DialDeskModel", "mayBlock", "(IIIII)Z"⟩, 38), (⟨"DialDeskModel", "isFree", "(I)Z"⟩, 38), (⟨"DialDeskModel", "add", "(IIIIIIIII)I"⟩, 38), (⟨"DialDeskModel", "put", "(IIIIIIIII)I"⟩, 38), (⟨"DialDeskModel", "numbersOf", "(I)J"⟩, 38), (⟨"DialDeskModel", "isEntry", "(I)Z"⟩, 38), (⟨"DialDeskModel", "mayEnd", "(II)Z"⟩, 38), (⟨"DialDeskModel", "mayChange", "(III)Z"⟩, 38), (⟨"DialDeskModel", "park", "(IIIIII)V"⟩, 38), (⟨"DialDeskModel", "isForce", "(II)Z"⟩, 38), (⟨"DialDeskModel", "isPair", "(II)Z"⟩, 38), (⟨"DialDeskModel", "begins", "(II)Z"⟩, 38), (⟨"DialDeskModel", "may", "(II)I"⟩, 38), (⟨"DialDeskModel", "lineOn", "(IJI)I"⟩, 38), (⟨"DialDeskModel", "blockOf", "(II)I"⟩, 38)]
theorem lw_r2 : ∀ q ∈ lw_privs_2, lw_okq q := List.forall_mem_cons.mpr ⟨lw_p16, List.forall_mem_cons.mpr ⟨lw_p17, List.forall_mem_cons.mpr ⟨lw_p18, List.forall_mem_cons.mpr ⟨lw_p19, List.forall_mem_cons.mpr ⟨lw_p20, List.forall_mem_cons.mpr ⟨lw_p21, List.forall_mem_cons.mpr ⟨lw_p22, List.forall_mem_cons.mpr ⟨lw_p23, List.forall_mem_cons.mpr ⟨lw_p24, List.forall_mem_cons.mpr ⟨lw_p25, List.forall_mem_cons.mpr ⟨lw_p26, List.forall_mem_cons.mpr ⟨lw_p27, List.forall_mem_cons.mpr ⟨lw_p28, List.forall_mem_cons.mpr ⟨lw_p29, List.forall_mem_cons.mpr ⟨lw_p30, List.forall_mem_cons.mpr ⟨lw_p31, fun _ h => absurd h List.not_mem_nil⟩⟩⟩⟩⟩⟩⟩⟩⟩⟩⟩⟩⟩⟩⟩⟩
theorem lw_p32 : lw_okq (⟨"DialDeskModel", "follow", "(IJI)I"⟩, 38) := ⟨⟨by decide +kernel, by decide +kernel⟩, List.mem_of_getElem? (i := 818) (by decide +kernel), List.mem_of_getElem? (i := 1070) (by decide +kernel), List.mem_of_getElem? (i := 1071) (by decide +kernel)⟩
theorem lw_p33 : lw_okq (⟨"DialDeskModel", "isLine", "(I)Z"⟩, 38) := ⟨⟨by decide +kernel, by decide +kernel⟩, List.mem_of_getElem? (i := 818) (by decide +kernel), List.mem_of_getElem? (i := 1078) (by decide +kernel), List.mem_of_getElem? (i := 1079) (by decide +kernel)⟩
theorem lw_p34 : lw_okq (⟨"DialDeskModel", "carrierOf", "(II)I"⟩, 38) := ⟨⟨by decide +kernel, by decide +kernel⟩, List.mem_of_getElem? (i := 818) (by decide +kernel), List.mem_of_getElem? (i := 1086) (by decide +kernel), List.mem_of_getElem? (i := 1087) (by decide +kernel)⟩
theorem lw_p35 : lw_okq (⟨"DialDeskModel", "isCall", "(I)Z"⟩, 38) := ⟨⟨by decide +kernel, by decide +kernel⟩, List.mem_of_getElem? (i := 818) (by decide +kernel), List.mem_of_getElem? (i := 1106) (by decide +kernel), List.mem_of_getElem? (i := 1107) (by decide +kernel)⟩
theorem lw_p36 : lw_okq (⟨"DialDeskModel", "takeCall", "(I)V"⟩, 38) := ⟨⟨by decide +kernel, by decide +kernel⟩, List.mem_of_getElem? (i := 818) (by decide +kernel), List.mem_of_getElem? (i := 1115) (by decide +kernel), List.mem_of_getElem? (i := 1116) (by decide +kernel)⟩
theorem lw_p37 : lw_okq (⟨"DialDeskModel", "answer", "(I)I"⟩, 38) := ⟨⟨by decide +kernel, by decide +kernel⟩, List.mem_of_getElem? (i := 818) (by decide +kernel), List.mem_of_getElem? (i := 1119) (by decide +kernel), List.mem_of_getElem? (i := 1120) (by decide +kernel)⟩
theorem lw_p38 : lw_okq (⟨"DialDeskModel", "isNumber", "(I)Z"⟩, 38) := ⟨⟨by decide +kernel, by decide +kernel⟩, List.mem_of_getElem? (i := 818) (by decide +kernel), List.mem_of_getElem? (i := 1123) (by decide +kernel), List.mem_of_getElem? (i := 1124) (by decide +kernel)⟩
theorem lw_p39 : lw_okq (⟨"DialDeskModel", "isBegun", "(I)Z"⟩, 38) := ⟨⟨by decide +kernel, by decide +kernel⟩, List.mem_of_getElem? (i := 818) (by decide +kernel), List.mem_of_getElem? (i := 1127) (by decide +kernel), List.mem_of_getElem? (i := 1128) (by decide +kernel)⟩
theorem lw_p40 : lw_okq (⟨"DialDeskModel", "goesOn", "(I)Z"⟩, 38) := ⟨⟨by decide +kernel, by decide +kernel⟩, List.mem_of_getElem? (i := 818) (by decide +kernel), List.mem_of_getElem? (i := 1131) (by decide +kernel), List.mem_of_getElem? (i := 1132) (by decide +kernel)⟩
theorem lw_p41 : lw_okq (⟨"DialDeskModel", "leadsTo", "(I)I"⟩, 38) := ⟨⟨by decide +kernel, by decide +kernel⟩, List.mem_of_getElem? (i := 818) (by decide +kernel), List.mem_of_getElem? (i := 1143) (by decide +kernel), List.mem_of_getElem? (i := 1144) (by decide +kernel)⟩
theorem lw_p42 : lw_okq (⟨"DialDeskModel", "rank", "(I)I"⟩, 38) := ⟨⟨by decide +kernel, by decide +kernel⟩, List.mem_of_getElem? (i := 818) (by decide +kernel), List.mem_of_getElem? (i := 1147) (by decide +kernel), List.mem_of_getElem? (i := 1148) (by decide +kernel)⟩
theorem lw_p43 : lw_okq (⟨"DialDeskModel", "lineOf", "(II)I"⟩, 38) := ⟨⟨by decide +kernel, by decide +kernel⟩, List.mem_of_getElem? (i := 818) (by decide +kernel), List.mem_of_getElem? (i := 1151) (by decide +kernel), List.mem_of_getElem? (i := 1152) (by decide +kernel)⟩
theorem lw_p44 : lw_okq (⟨"DialDeskModel", "behind", "(I)I"⟩, 38) := ⟨⟨by decide +kernel, by decide +kernel⟩, List.mem_of_getElem? (i := 818) (by decide +kernel), List.mem_of_getElem? (i := 1155) (by decide +kernel), List.mem_of_getElem? (i := 1156) (by decide +kernel)⟩
theorem lw_p45 : lw_okq (⟨"DialDeskModel", "toCome", "(IZ)I"⟩, 38) := ⟨⟨by decide +kernel, by decide +kernel⟩, List.mem_of_getElem? (i := 818) (by decide +kernel), List.mem_of_getElem? (i := 1159) (by decide +kernel), List.mem_of_getElem? (i := 1160) (by decide +kernel)⟩
theorem lw_p46 : lw_okq (⟨"DialDeskModel", "takeNumber", "(J)V"⟩, 38) := ⟨⟨by decide +kernel, by decide +kernel⟩, List.mem_of_getElem? (i := 818) (by decide +kernel), List.mem_of_getElem? (i := 1167) (by decide +kernel), List.mem_of_getElem? (i := 1168) (by decide +kernel)⟩
theorem lw_p47 : lw_okq (⟨"DialDeskModel", "roomAt", "(II)J"⟩, 38) := ⟨⟨by decide +kernel, by decide +kernel⟩, List.mem_of_getElem? (i := 818) (by decide +kernel), List.mem_of_getElem? (i := 1181) (by decide +kernel), List.mem_of_getElem? (i := 1182) (by decide +kernel)⟩
def lw_privs_3 : List (MethodName × Nat) := [(⟨"DialDeskModel", "follow", "(IJI)I"⟩, 38), (⟨"DialDeskModel", "isLine", "(I)Z"⟩, 38), (⟨"DialDeskModel", "carrierOf", "(II)I"⟩, 38), (⟨"DialDeskModel", "isCall", "(I)Z"⟩, 38), (⟨"DialDeskModel", "takeCall", "(I)V"⟩, 38), (⟨"DialDeskModel", "answer", "(I)I"⟩, 38), (⟨"DialDeskModel", "isNumber", "(I)Z"⟩, 38), (⟨"DialDeskModel", "isBegun", "(I)Z"⟩, 38), (⟨"DialDeskModel", "goesOn", "(I)Z"⟩, 38), (⟨"DialDeskModel", "leadsTo", "(I)I"⟩, 38), (⟨"DialDeskModel", "rank", "(I)I"⟩, 38), (⟨"DialDeskModel", "lineOf", "(II)I"⟩, 38), (⟨"DialDeskModel", "behind", "(I)I"⟩, 38), (⟨"DialDeskModel", "toCome", "(IZ)I"⟩, 38), (⟨"DialDeskModel", "takeNumber", "(J)V"⟩, 38), (⟨"DialDeskModel", "roomAt", "(II)J"⟩, 38)]
theorem lw_r3 : ∀ q ∈ lw_privs_3, lw_okq q := List.forall_mem_cons.mpr ⟨lw_p32, List.forall_mem_cons.mpr ⟨lw_p33, List.forall_mem_cons.mpr ⟨lw_p34, List.forall_mem_cons.mpr ⟨lw_p35, List.forall_mem_cons.mpr ⟨lw_p36, List.forall_mem_cons.mpr ⟨lw_p37, List.forall_mem_cons.mpr ⟨lw_p38, List.forall_mem_cons.mpr ⟨lw_p39, List.forall_mem_cons.mpr ⟨lw_p40, List.forall_mem_cons.mpr ⟨lw_p41, List.forall_mem_cons.mpr ⟨lw_p42, List.forall_mem_cons.mpr ⟨lw_p43, List.forall_mem_cons.mpr ⟨lw_p44, List.forall_mem_cons.mpr ⟨lw_p45, List.forall_mem_cons.mpr ⟨lw_p46, List.forall_mem_cons.mpr ⟨lw_p47, fun _ h => absurd h List.not_mem_nil⟩⟩⟩⟩⟩⟩⟩⟩⟩⟩⟩⟩⟩⟩⟩⟩
theorem lw_p48 : lw_okq (⟨"DialDeskModel", "makeBase", "(I)V"⟩, 38) := ⟨⟨by decide +kernel, by decide +kernel⟩, List.mem_of_getElem? (i := 818) (by decide +kernel), List.mem_of_getElem? (i := 1190) (by decide +kernel), List.mem_of_getElem? (i := 1191) (by decide +kernel)⟩
theorem lw_p49 : lw_okq (⟨"DialDeskModel", "shortageWith", "(II)I"⟩, 38) := ⟨⟨by decide +kernel, by decide +kernel⟩, List.mem_of_getElem? (i := 818) (by decide +kernel), List.mem_of_getElem? (i := 1194) (by decide +kernel), List.mem_of_getElem? (i := 1195) (by decide +kernel)⟩
theorem lw_p50 : lw_okq (⟨"DialDeskModel", "mayAll", "(I)Z"⟩, 38) := ⟨⟨by decide +kernel, by decide +kernel⟩, List.mem_of_getElem? (i := 818) (by decide +kernel), List.mem_of_getElem? (i := 1207) (by decide +kernel), List.mem_of_getElem? (i := 1208) (by decide +kernel)⟩
def lw_privs_4 : List (MethodName × Nat) := [(⟨"DialDeskModel", "makeBase", "(I)V"⟩, 38), (⟨"DialDeskModel", "shortageWith", "(II)I"⟩, 38), (⟨"DialDeskModel", "mayAll", "(I)Z"⟩, 38)]
theorem lw_r4 : ∀ q ∈ lw_privs_4, lw_okq q := List.forall_mem_cons.mpr ⟨lw_p48, List.forall_mem_cons.mpr ⟨lw_p49, List.forall_mem_cons.mpr ⟨lw_p50, fun _ h => absurd h List.not_mem_nil⟩⟩⟩
def lw_privs : List (MethodName × Nat) := lw_privs_1 ++ (lw_privs_2 ++ (lw_privs_3 ++ (lw_privs_4)))
def lw_tbl : List Cond := k2_sels lw_privs ++ tables_1
theorem lw_privs_ok : ∀ q ∈ lw_privs, lw_okq q := by
  show ∀ q ∈ lw_privs_1 ++ (lw_privs_2 ++ (lw_privs_3 ++ (lw_privs_4))), lw_okq q
  exact List.forall_mem_append.mpr ⟨lw_r1, List.forall_mem_append.mpr ⟨lw_r2, List.forall_mem_append.mpr ⟨lw_r3, lw_r4⟩⟩⟩
def RX0 : String := "DialDesk$Call"
def TX0 : u_T := fun k => match k with
  | 0 => ("DialDesk$Call", "begun", "Z", false)
  | 1 => ("DialDesk$Call", "over", "Z", false)
  | 2 => ("DialDesk$Call", "day", "I", false)
  | 3 => ("DialDesk$Call", "answer", "I", false)
  | 4 => ("DialDesk$Call", "places", "I", false)
  | _ => ("DialDesk$Call", "figures", "J", false)
def tyX0 : Nat → FieldType := fun k => match k with
  | 0 => .boolean
  | 1 => .boolean
  | 2 => .int
  | 3 => .int
  | 4 => .int
  | _ => .long
theorem nmX0 : ∀ a, a < 6 → ∀ b, b < 6 → a ≠ b → (TX0 a).2.1 ≠ (TX0 b).2.1 := by decide +kernel
theorem tyX0_ok : ∀ k, k < 6 → parseFieldDescriptor (TX0 k).2.2.1 = some (tyX0 k) := by decide +kernel
abbrev cX0_init : ByteArray := prog_2_method_1_code
def yX0_init : MethodName := ⟨RX0, "<init>", "()V"⟩
abbrev cX0_begin : ByteArray := prog_2_method_2_code
def yX0_begin : MethodName := ⟨RX0, "begin", "(I)V"⟩
abbrev cX0_isOpen : ByteArray := prog_2_method_3_code
def yX0_isOpen : MethodName := ⟨RX0, "isOpen", "()Z"⟩
abbrev cX0_hear : ByteArray := prog_2_method_4_code
def yX0_hear : MethodName := ⟨RX0, "hear", "(I)V"⟩
def RX1 : String := "DialDesk$Demand"
def TX1 : u_T := fun k => match k with
  | 0 => ("DialDesk$Demand", "area", "I", true)
  | 1 => ("DialDesk$Demand", "first", "I", false)
  | _ => ("DialDesk$Demand", "more", "I", false)
def tyX1 : Nat → FieldType := fun k => match k with
  | 0 => .int
  | 1 => .int
  | _ => .int
theorem nmX1 : ∀ a, a < 3 → ∀ b, b < 3 → a ≠ b → (TX1 a).2.1 ≠ (TX1 b).2.1 := by decide +kernel
theorem tyX1_ok : ∀ k, k < 3 → parseFieldDescriptor (TX1 k).2.2.1 = some (tyX1 k) := by decide +kernel
abbrev cX1_init : ByteArray := prog_3_method_1_code
def yX1_init : MethodName := ⟨RX1, "<init>", "(I)V"⟩
abbrev cX1_askedIn : ByteArray := prog_3_method_2_code
def yX1_askedIn : MethodName := ⟨RX1, "askedIn", "(I)J"⟩
abbrev cX1_firstAbove : ByteArray := prog_3_method_3_code
def yX1_firstAbove : MethodName := ⟨RX1, "firstAbove", "(JI)I"⟩
def RX2 : String := "DialDesk$Entry"
def TX2 : u_T := fun k => match k with
  | 0 => ("DialDesk$Entry", "kind", "I", true)
  | 1 => ("DialDesk$Entry", "belongs", "I", true)
  | 2 => ("DialDesk$Entry", "prefix", "I", true)
  | 3 => ("DialDesk$Entry", "places", "I", true)
  | 4 => ("DialDesk$Entry", "set", "I", true)
  | 5 => ("DialDesk$Entry", "least", "I", true)
  | 6 => ("DialDesk$Entry", "most", "I", true)
  | 7 => ("DialDesk$Entry", "first", "I", true)
  | 8 => ("DialDesk$Entry", "fixed", "[I", true)
  | 9 => ("DialDesk$Entry", "id", "I", false)
  | 10 => ("DialDesk$Entry", "end", "I", false)
  | 11 => ("DialDesk$Entry", "from", "I", false)
  | 12 => ("DialDesk$Entry", "changeDay", "I", false)
  | 13 => ("DialDesk$Entry", "moved", "LDialDesk$Entry;", false)
  | 14 => ("DialDesk$Entry", "rest", "LDialDesk$Entry;", false)
  | 15 => ("DialDesk$Entry", "standsFor", "LDialDesk$Entry;", false)
  | 16 => ("DialDesk$Entry", "lowClashes", "J", false)
  | _ => ("DialDesk$Entry", "highClashes", "J", false)
def tyX2 : Nat → FieldType := fun k => match k with
  | 0 => .int
  | 1 => .int
  | 2 => .int
  | 3 => .int
  | 4 => .int
  | 5 => .int
  | 6 => .int
  | 7 => .int
  | 8 => .array .int
  | 9 => .int
  | 10 => .int
  | 11 => .int
  | 12 => .int
  | 13 => .object "DialDesk$Entry"
  | 14 => .object "DialDesk$Entry"
  | 15 => .object "DialDesk$Entry"
  | 16 => .long
  | _ => .long
theorem nmX2 : ∀ a, a < 18 → ∀ b, b < 18 → a ≠ b → (TX2 a).2.1 ≠ (TX2 b).2.1 := by decide +kernel
theorem tyX2_ok : ∀ k, k < 18 → parseFieldDescriptor (TX2 k).2.2.1 = some (tyX2 k) := by decide +kernel
abbrev cX2_init : ByteArray := prog_4_method_1_code
def yX2_init : MethodName := ⟨RX2, "<init>", "(IIIIIII)V"⟩
abbrev cX2_tell : ByteArray := prog_4_method_2_code
def yX2_tell : MethodName := ⟨RX2, "tell", "(I)I"⟩
abbrev cX2_isInForce : ByteArray := prog_4_method_3_code
def yX2_isInForce : MethodName := ⟨RX2, "isInForce", "(I)Z"⟩
abbrev cX2_isInside : ByteArray := prog_4_method_4_code
def yX2_isInside : MethodName := ⟨RX2, "isInside", "(I)Z"⟩
abbrev cX2_placesBehind : ByteArray := prog_4_method_5_code
def yX2_placesBehind : MethodName := ⟨RX2, "placesBehind", "()I"⟩
abbrev cX2_figuresAt : ByteArray := prog_4_method_6_code
def yX2_figuresAt : MethodName := ⟨RX2, "figuresAt", "(I)I"⟩
abbrev cX2_fits : ByteArray := prog_4_method_7_code
def yX2_fits : MethodName := ⟨RX2, "fits", "(JI)Z"⟩
abbrev cX2_hasNumber : ByteArray := prog_4_method_8_code
def yX2_hasNumber : MethodName := ⟨RX2, "hasNumber", "(JI)Z"⟩
abbrev cX2_hasBehind : ByteArray := prog_4_method_9_code
def yX2_hasBehind : MethodName := ⟨RX2, "hasBehind", "(I)Z"⟩
abbrev cX2_numberWith : ByteArray := prog_4_method_10_code
def yX2_numberWith : MethodName := ⟨RX2, "numberWith", "(I)J"⟩
abbrev cX2_clashesWith : ByteArray := prog_4_method_11_code
def yX2_clashesWith : MethodName := ⟨RX2, "clashesWith", "(LDialDesk$Entry;)Z"⟩
abbrev cX2_noteClash : ByteArray := prog_4_method_12_code
def yX2_noteClash : MethodName := ⟨RX2, "noteClash", "(I)V"⟩
abbrev cX2_hasClash : ByteArray := prog_4_method_13_code
def yX2_hasClash : MethodName := ⟨RX2, "hasClash", "(I)Z"⟩
abbrev cX2_followedTo : ByteArray := prog_4_method_14_code
def yX2_followedTo : MethodName := ⟨RX2, "followedTo", "(II)LDialDesk$Entry;"⟩
abbrev cX2_nextFor : ByteArray := prog_4_method_15_code
def yX2_nextFor : MethodName := ⟨RX2, "nextFor", "(I)LDialDesk$Entry;"⟩
abbrev cX2_roomOn : ByteArray := prog_4_method_16_code
def yX2_roomOn : MethodName := ⟨RX2, "roomOn", "(I)J"⟩
def RX3 : String := "DialDesk$Line"
def TX3 : u_T := fun k => match k with
  | 0 => ("DialDesk$Line", "start", "LDialDesk$Entry;", true)
  | 1 => ("DialDesk$Line", "figures", "I", true)
  | 2 => ("DialDesk$Line", "head", "I", true)
  | 3 => ("DialDesk$Line", "first", "I", true)
  | 4 => ("DialDesk$Line", "end", "I", false)
  | _ => ("DialDesk$Line", "latest", "LDialDesk$Porting;", false)
def tyX3 : Nat → FieldType := fun k => match k with
  | 0 => .object "DialDesk$Entry"
  | 1 => .int
  | 2 => .int
  | 3 => .int
  | 4 => .int
  | _ => .object "DialDesk$Porting"
theorem nmX3 : ∀ a, a < 6 → ∀ b, b < 6 → a ≠ b → (TX3 a).2.1 ≠ (TX3 b).2.1 := by decide +kernel
theorem tyX3_ok : ∀ k, k < 6 → parseFieldDescriptor (TX3 k).2.2.1 = some (tyX3 k) := by decide +kernel
abbrev cX3_init : ByteArray := prog_5_method_1_code
def yX3_init : MethodName := ⟨RX3, "<init>", "(LDialDesk$Entry;II)V"⟩
abbrev cX3_blockOn : ByteArray := prog_5_method_2_code
def yX3_blockOn : MethodName := ⟨RX3, "blockOn", "(I)LDialDesk$Entry;"⟩
abbrev cX3_carrierOn : ByteArray := prog_5_method_3_code
def yX3_carrierOn : MethodName := ⟨RX3, "carrierOn", "(I)I"⟩
def RX4 : String := "DialDesk$Lines"
def TX4 : u_T := fun k => match k with
  | 0 => ("DialDesk$Lines", "rows", "[LDialDesk$Line;", true)
  | 1 => ("DialDesk$Lines", "size", "I", false)
  | _ => ("DialDesk$Lines", "portings", "I", false)
def tyX4 : Nat → FieldType := fun k => match k with
  | 0 => .array (.object "DialDesk$Line")
  | 1 => .int
  | _ => .int
theorem nmX4 : ∀ a, a < 3 → ∀ b, b < 3 → a ≠ b → (TX4 a).2.1 ≠ (TX4 b).2.1 := by decide +kernel
theorem tyX4_ok : ∀ k, k < 3 → parseFieldDescriptor (TX4 k).2.2.1 = some (tyX4 k) := by decide +kernel
abbrev cX4_init : ByteArray := prog_6_method_1_code
def yX4_init : MethodName := ⟨RX4, "<init>", "()V"⟩
abbrev cX4_lineWith : ByteArray := prog_6_method_2_code
def yX4_lineWith : MethodName := ⟨RX4, "lineWith", "(I)LDialDesk$Line;"⟩
abbrev cX4_append : ByteArray := prog_6_method_3_code
def yX4_append : MethodName := ⟨RX4, "append", "(LDialDesk$Entry;II)I"⟩
abbrev cX4_portTo : ByteArray := prog_6_method_4_code
def yX4_portTo : MethodName := ⟨RX4, "portTo", "(LDialDesk$Line;II)I"⟩
abbrev cX4_findOn : ByteArray := prog_6_method_5_code
def yX4_findOn : MethodName := ⟨RX4, "findOn", "(LDialDesk$Entry;JI)I"⟩
abbrev cX4_findBy : ByteArray := prog_6_method_6_code
def yX4_findBy : MethodName := ⟨RX4, "findBy", "(LDialDesk$Entry;JII)I"⟩
abbrev cX4_numberedOn : ByteArray := prog_6_method_7_code
def yX4_numberedOn : MethodName := ⟨RX4, "numberedOn", "(I)I"⟩
def RX5 : String := "DialDesk$Option"
def TX5 : u_T := fun k => match k with
  | 0 => ("DialDesk$Option", "block", "LDialDesk$Entry;", true)
  | _ => ("DialDesk$Option", "cost", "I", true)
def tyX5 : Nat → FieldType := fun k => match k with
  | 0 => .object "DialDesk$Entry"
  | _ => .int
theorem nmX5 : ∀ a, a < 2 → ∀ b, b < 2 → a ≠ b → (TX5 a).2.1 ≠ (TX5 b).2.1 := by decide +kernel
theorem tyX5_ok : ∀ k, k < 2 → parseFieldDescriptor (TX5 k).2.2.1 = some (tyX5 k) := by decide +kernel
abbrev cX5_init : ByteArray := prog_7_method_1_code
def yX5_init : MethodName := ⟨RX5, "<init>", "(LDialDesk$Entry;I)V"⟩
def RX6 : String := "DialDesk$Plan"
def TX6 : u_T := fun k => match k with
  | 0 => ("DialDesk$Plan", "entries", "[LDialDesk$Entry;", true)
  | 1 => ("DialDesk$Plan", "size", "I", false)
  | 2 => ("DialDesk$Plan", "lowInForce", "J", false)
  | 3 => ("DialDesk$Plan", "highInForce", "J", false)
  | _ => ("DialDesk$Plan", "reading", "LDialDesk$Reading;", true)
def tyX6 : Nat → FieldType := fun k => match k with
  | 0 => .array (.object "DialDesk$Entry")
  | 1 => .int
  | 2 => .long
  | 3 => .long
  | _ => .object "DialDesk$Reading"
theorem nmX6 : ∀ a, a < 5 → ∀ b, b < 5 → a ≠ b → (TX6 a).2.1 ≠ (TX6 b).2.1 := by decide +kernel
theorem tyX6_ok : ∀ k, k < 5 → parseFieldDescriptor (TX6 k).2.2.1 = some (tyX6 k) := by decide +kernel
abbrev cX6_init : ByteArray := prog_8_method_1_code
def yX6_init : MethodName := ⟨RX6, "<init>", "()V"⟩
abbrev cX6_entryAt : ByteArray := prog_8_method_2_code
def yX6_entryAt : MethodName := ⟨RX6, "entryAt", "(I)LDialDesk$Entry;"⟩
abbrev cX6_blockAt : ByteArray := prog_8_method_3_code
def yX6_blockAt : MethodName := ⟨RX6, "blockAt", "(I)LDialDesk$Entry;"⟩
abbrev cX6_hasRoomFor : ByteArray := prog_8_method_4_code
def yX6_hasRoomFor : MethodName := ⟨RX6, "hasRoomFor", "(I)Z"⟩
abbrev cX6_append : ByteArray := prog_8_method_5_code
def yX6_append : MethodName := ⟨RX6, "append", "(LDialDesk$Entry;)I"⟩
abbrev cX6_change : ByteArray := prog_8_method_6_code
def yX6_change : MethodName := ⟨RX6, "change", "(LDialDesk$Entry;LDialDesk$Entry;I)I"⟩
abbrev cX6_appendFrom : ByteArray := prog_8_method_7_code
def yX6_appendFrom : MethodName := ⟨RX6, "appendFrom", "(LDialDesk$Entry;LDialDesk$Entry;I)V"⟩
abbrev cX6_inForceOn : ByteArray := prog_8_method_8_code
def yX6_inForceOn : MethodName := ⟨RX6, "inForceOn", "(I)I"⟩
abbrev cX6_noteInForce : ByteArray := prog_8_method_9_code
def yX6_noteInForce : MethodName := ⟨RX6, "noteInForce", "(I)V"⟩
abbrev cX6_pairsOf : ByteArray := prog_8_method_10_code
def yX6_pairsOf : MethodName := ⟨RX6, "pairsOf", "(LDialDesk$Entry;)I"⟩
abbrev cX6_pairsOn : ByteArray := prog_8_method_11_code
def yX6_pairsOn : MethodName := ⟨RX6, "pairsOn", "(I)I"⟩
abbrev cX6_pairOn : ByteArray := prog_8_method_12_code
def yX6_pairOn : MethodName := ⟨RX6, "pairOn", "(III)I"⟩
abbrev cX6_partnerOf : ByteArray := prog_8_method_13_code
def yX6_partnerOf : MethodName := ⟨RX6, "partnerOf", "(LDialDesk$Entry;II)I"⟩
abbrev cX6_leadOf : ByteArray := prog_8_method_14_code
def yX6_leadOf : MethodName := ⟨RX6, "leadOf", "(JII)LDialDesk$Entry;"⟩
abbrev cX6_rankOf : ByteArray := prog_8_method_15_code
def yX6_rankOf : MethodName := ⟨RX6, "rankOf", "(I)I"⟩
abbrev cX6_read : ByteArray := prog_8_method_16_code
def yX6_read : MethodName := ⟨RX6, "read", "(JII)LDialDesk$Reading;"⟩
abbrev cX6_roomOf : ByteArray := prog_8_method_17_code
def yX6_roomOf : MethodName := ⟨RX6, "roomOf", "(II)J"⟩
abbrev cX6_nextTurn : ByteArray := prog_8_method_18_code
def yX6_nextTurn : MethodName := ⟨RX6, "nextTurn", "(II)I"⟩
abbrev cX6_sooner : ByteArray := prog_8_method_19_code
def yX6_sooner : MethodName := ⟨RX6, "sooner", "(III)I"⟩
abbrev cX6_clashesOn : ByteArray := prog_8_method_20_code
def yX6_clashesOn : MethodName := ⟨RX6, "clashesOn", "(LDialDesk$Entry;I)Z"⟩
def RX7 : String := "DialDesk$Porting"
def TX7 : u_T := fun k => match k with
  | 0 => ("DialDesk$Porting", "carrier", "I", true)
  | 1 => ("DialDesk$Porting", "day", "I", true)
  | _ => ("DialDesk$Porting", "before", "LDialDesk$Porting;", true)
def tyX7 : Nat → FieldType := fun k => match k with
  | 0 => .int
  | 1 => .int
  | _ => .object "DialDesk$Porting"
theorem nmX7 : ∀ a, a < 3 → ∀ b, b < 3 → a ≠ b → (TX7 a).2.1 ≠ (TX7 b).2.1 := by decide +kernel
theorem tyX7_ok : ∀ k, k < 3 → parseFieldDescriptor (TX7 k).2.2.1 = some (tyX7 k) := by decide +kernel
abbrev cX7_init : ByteArray := prog_9_method_1_code
def yX7_init : MethodName := ⟨RX7, "<init>", "(IILDialDesk$Porting;)V"⟩
def RX8 : String := "DialDesk$Reading"
def TX8 : u_T := fun k => match k with
  | 0 => ("DialDesk$Reading", "whole", "Z", false)
  | 1 => ("DialDesk$Reading", "next", "I", false)
  | 2 => ("DialDesk$Reading", "leastMore", "I", false)
  | _ => ("DialDesk$Reading", "mostMore", "I", false)
def tyX8 : Nat → FieldType := fun k => match k with
  | 0 => .boolean
  | 1 => .int
  | 2 => .int
  | _ => .int
theorem nmX8 : ∀ a, a < 4 → ∀ b, b < 4 → a ≠ b → (TX8 a).2.1 ≠ (TX8 b).2.1 := by decide +kernel
theorem tyX8_ok : ∀ k, k < 4 → parseFieldDescriptor (TX8 k).2.2.1 = some (tyX8 k) := by decide +kernel
abbrev cX8_init : ByteArray := prog_10_method_1_code
def yX8_init : MethodName := ⟨RX8, "<init>", "()V"⟩
abbrev cX8_clear : ByteArray := prog_10_method_2_code
def yX8_clear : MethodName := ⟨RX8, "clear", "()V"⟩
abbrev cX8_add : ByteArray := prog_10_method_3_code
def yX8_add : MethodName := ⟨RX8, "add", "(LDialDesk$Entry;I)V"⟩
abbrev cX8_answer : ByteArray := prog_10_method_4_code
def yX8_answer : MethodName := ⟨RX8, "answer", "()I"⟩
def RX9 : String := "DialDesk$Supply"
def TX9 : u_T := fun k => match k with
  | 0 => ("DialDesk$Supply", "plan", "LDialDesk$Plan;", true)
  | 1 => ("DialDesk$Supply", "demands", "[LDialDesk$Demand;", true)
  | 2 => ("DialDesk$Supply", "options", "[LDialDesk$Option;", true)
  | 3 => ("DialDesk$Supply", "size", "I", false)
  | 4 => ("DialDesk$Supply", "lackWeeks", "[I", true)
  | 5 => ("DialDesk$Supply", "lacks", "[J", true)
  | _ => ("DialDesk$Supply", "lackCount", "I", false)
def tyX9 : Nat → FieldType := fun k => match k with
  | 0 => .object "DialDesk$Plan"
  | 1 => .array (.object "DialDesk$Demand")
  | 2 => .array (.object "DialDesk$Option")
  | 3 => .int
  | 4 => .array .int
  | 5 => .array .long
  | _ => .int
theorem nmX9 : ∀ a, a < 7 → ∀ b, b < 7 → a ≠ b → (TX9 a).2.1 ≠ (TX9 b).2.1 := by decide +kernel
theorem tyX9_ok : ∀ k, k < 7 → parseFieldDescriptor (TX9 k).2.2.1 = some (tyX9 k) := by decide +kernel
abbrev cX9_init : ByteArray := prog_11_method_1_code
def yX9_init : MethodName := ⟨RX9, "<init>", "(LDialDesk$Plan;)V"⟩
abbrev cX9_demandOf : ByteArray := prog_11_method_2_code
def yX9_demandOf : MethodName := ⟨RX9, "demandOf", "(I)LDialDesk$Demand;"⟩
abbrev cX9_optionAt : ByteArray := prog_11_method_3_code
def yX9_optionAt : MethodName := ⟨RX9, "optionAt", "(I)LDialDesk$Option;"⟩
abbrev cX9_offer : ByteArray := prog_11_method_4_code
def yX9_offer : MethodName := ⟨RX9, "offer", "(LDialDesk$Option;)I"⟩
abbrev cX9_withdraw : ByteArray := prog_11_method_5_code
def yX9_withdraw : MethodName := ⟨RX9, "withdraw", "(I)V"⟩
abbrev cX9_firstShort : ByteArray := prog_11_method_6_code
def yX9_firstShort : MethodName := ⟨RX9, "firstShort", "(LDialDesk$Demand;I)I"⟩
abbrev cX9_cheapestRelief : ByteArray := prog_11_method_7_code
def yX9_cheapestRelief : MethodName := ⟨RX9, "cheapestRelief", "(LDialDesk$Demand;II)I"⟩
abbrev cX9_noteLacks : ByteArray := prog_11_method_8_code
def yX9_noteLacks : MethodName := ⟨RX9, "noteLacks", "(LDialDesk$Demand;II)V"⟩
abbrev cX9_nextTurnWithOptions : ByteArray := prog_11_method_9_code
def yX9_nextTurnWithOptions : MethodName := ⟨RX9, "nextTurnWithOptions", "(II)I"⟩
abbrev cX9_usableFor : ByteArray := prog_11_method_10_code
def yX9_usableFor : MethodName := ⟨RX9, "usableFor", "(II)I"⟩
abbrev cX9_costOf : ByteArray := prog_11_method_11_code
def yX9_costOf : MethodName := ⟨RX9, "costOf", "(I)I"⟩
abbrev cX9_isWithoutPair : ByteArray := prog_11_method_12_code
def yX9_isWithoutPair : MethodName := ⟨RX9, "isWithoutPair", "(I)Z"⟩
abbrev cX9_coversLacks : ByteArray := prog_11_method_13_code
def yX9_coversLacks : MethodName := ⟨RX9, "coversLacks", "(I)Z"⟩
abbrev cX9_roomBy : ByteArray := prog_11_method_14_code
def yX9_roomBy : MethodName := ⟨RX9, "roomBy", "(II)J"⟩
def RX10 : String := "DialDesk"
def TX10 : u_T := fun k => match k with
  | 0 => ("DialDesk", "plan", "LDialDesk$Plan;", true)
  | 1 => ("DialDesk", "lines", "LDialDesk$Lines;", true)
  | 2 => ("DialDesk", "calls", "[LDialDesk$Call;", true)
  | 3 => ("DialDesk", "supply", "LDialDesk$Supply;", true)
  | _ => ("DialDesk", "clock", "I", false)
def tyX10 : Nat → FieldType := fun k => match k with
  | 0 => .object "DialDesk$Plan"
  | 1 => .object "DialDesk$Lines"
  | 2 => .array (.object "DialDesk$Call")
  | 3 => .object "DialDesk$Supply"
  | _ => .int
theorem nmX10 : ∀ a, a < 5 → ∀ b, b < 5 → a ≠ b → (TX10 a).2.1 ≠ (TX10 b).2.1 := by decide +kernel
theorem tyX10_ok : ∀ k, k < 5 → parseFieldDescriptor (TX10 k).2.2.1 = some (tyX10 k) := by decide +kernel
abbrev cX10_init : ByteArray := prog_1_method_1_code
def yX10_init : MethodName := ⟨RX10, "<init>", "()V"⟩
abbrev cX10_now : ByteArray := prog_1_method_2_code
def yX10_now : MethodName := ⟨RX10, "now", "(I)I"⟩
abbrev cX10_block : ByteArray := prog_1_method_3_code
def yX10_block : MethodName := ⟨RX10, "block", "(IIIII)I"⟩
abbrev cX10_service : ByteArray := prog_1_method_4_code
def yX10_service : MethodName := ⟨RX10, "service", "(III)I"⟩
abbrev cX10_foreign : ByteArray := prog_1_method_5_code
def yX10_foreign : MethodName := ⟨RX10, "foreign", "(IIII)I"⟩
abbrev cX10_finish : ByteArray := prog_1_method_6_code
def yX10_finish : MethodName := ⟨RX10, "finish", "(II)I"⟩
abbrev cX10_split : ByteArray := prog_1_method_7_code
def yX10_split : MethodName := ⟨RX10, "split", "(IIIIII)I"⟩
abbrev cX10_lengthen : ByteArray := prog_1_method_8_code
def yX10_lengthen : MethodName := ⟨RX10, "lengthen", "(IIII)I"⟩
abbrev cX10_entry : ByteArray := prog_1_method_9_code
def yX10_entry : MethodName := ⟨RX10, "entry", "(II)I"⟩
abbrev cX10_pairs : ByteArray := prog_1_method_10_code
def yX10_pairs : MethodName := ⟨RX10, "pairs", "(I)I"⟩
abbrev cX10_pair : ByteArray := prog_1_method_11_code
def yX10_pair : MethodName := ⟨RX10, "pair", "(III)I"⟩
abbrev cX10_line : ByteArray := prog_1_method_12_code
def yX10_line : MethodName := ⟨RX10, "line", "(II)I"⟩
abbrev cX10_drop : ByteArray := prog_1_method_13_code
def yX10_drop : MethodName := ⟨RX10, "drop", "(I)I"⟩
abbrev cX10_port : ByteArray := prog_1_method_14_code
def yX10_port : MethodName := ⟨RX10, "port", "(II)I"⟩
abbrev cX10_numberOf : ByteArray := prog_1_method_15_code
def yX10_numberOf : MethodName := ⟨RX10, "numberOf", "(II)J"⟩
abbrev cX10_lineAt : ByteArray := prog_1_method_16_code
def yX10_lineAt : MethodName := ⟨RX10, "lineAt", "(III)I"⟩
abbrev cX10_call : ByteArray := prog_1_method_17_code
def yX10_call : MethodName := ⟨RX10, "call", "(I)I"⟩
abbrev cX10_figure : ByteArray := prog_1_method_18_code
def yX10_figure : MethodName := ⟨RX10, "figure", "(II)I"⟩
abbrev cX10_waits : ByteArray := prog_1_method_19_code
def yX10_waits : MethodName := ⟨RX10, "waits", "(I)I"⟩
abbrev cX10_told : ByteArray := prog_1_method_20_code
def yX10_told : MethodName := ⟨RX10, "told", "(II)I"⟩
abbrev cX10_leads : ByteArray := prog_1_method_21_code
def yX10_leads : MethodName := ⟨RX10, "leads", "(JI)I"⟩
abbrev cX10_demand : ByteArray := prog_1_method_22_code
def yX10_demand : MethodName := ⟨RX10, "demand", "(III)I"⟩
abbrev cX10_room : ByteArray := prog_1_method_23_code
def yX10_room : MethodName := ⟨RX10, "room", "(II)J"⟩
abbrev cX10_shortage : ByteArray := prog_1_method_24_code
def yX10_shortage : MethodName := ⟨RX10, "shortage", "(I)I"⟩
abbrev cX10_mightCome : ByteArray := prog_1_method_25_code
def yX10_mightCome : MethodName := ⟨RX10, "mightCome", "(IIIIII)I"⟩
abbrev cX10_relief : ByteArray := prog_1_method_26_code
def yX10_relief : MethodName := ⟨RX10, "relief", "(II)I"⟩
abbrev cX10_take : ByteArray := prog_1_method_27_code
def yX10_take : MethodName := ⟨RX10, "take", "(I)I"⟩
abbrev cX10_count : ByteArray := prog_1_method_28_code
def yX10_count : MethodName := ⟨RX10, "count", "(I)I"⟩
abbrev cX10_isDayToCome : ByteArray := prog_1_method_29_code
def yX10_isDayToCome : MethodName := ⟨RX10, "isDayToCome", "(I)Z"⟩
abbrev cX10_canChange : ByteArray := prog_1_method_30_code
def yX10_canChange : MethodName := ⟨RX10, "canChange", "(LDialDesk$Entry;II)Z"⟩
abbrev cX10_callWith : ByteArray := prog_1_method_31_code
def yX10_callWith : MethodName := ⟨RX10, "callWith", "(I)LDialDesk$Call;"⟩
abbrev cX10_tellOfLead : ByteArray := prog_1_method_32_code
def yX10_tellOfLead : MethodName := ⟨RX10, "tellOfLead", "(LDialDesk$Call;I)I"⟩
abbrev cX10_tellOfRest : ByteArray := prog_1_method_33_code
def yX10_tellOfRest : MethodName := ⟨RX10, "tellOfRest", "(LDialDesk$Call;I)I"⟩
abbrev cX10_isDay : ByteArray := prog_1_method_34_code
def yX10_isDay : MethodName := ⟨RX10, "isDay", "(I)Z"⟩
abbrev cX10_isBlock : ByteArray := prog_1_method_35_code
def yX10_isBlock : MethodName := ⟨RX10, "isBlock", "(IIII)Z"⟩
abbrev cX10_isWithin : ByteArray := prog_1_method_36_code
def yX10_isWithin : MethodName := ⟨RX10, "isWithin", "(III)Z"⟩
abbrev cX10_tens : ByteArray := prog_1_method_37_code
def yX10_tens : MethodName := ⟨RX10, "tens", "(I)J"⟩
abbrev cX10_placesOf : ByteArray := prog_1_method_38_code
def yX10_placesOf : MethodName := ⟨RX10, "placesOf", "(J)I"⟩
abbrev cX10_withoutLast : ByteArray := prog_1_method_39_code
def yX10_withoutLast : MethodName := ⟨RX10, "withoutLast", "(JI)J"⟩
abbrev cX10_lastOf : ByteArray := prog_1_method_40_code
def yX10_lastOf : MethodName := ⟨RX10, "lastOf", "(JI)J"⟩
abbrev cX10_figureBit : ByteArray := prog_1_method_41_code
def yX10_figureBit : MethodName := ⟨RX10, "figureBit", "(JII)I"⟩
abbrev cX10_weekBehind : ByteArray := prog_1_method_42_code
def yX10_weekBehind : MethodName := ⟨RX10, "weekBehind", "(I)I"⟩
def RX11 : String := "DialDeskModel"
def TX11 : u_T := fun k => match k with
  | 0 => ("DialDeskModel", "clock", "I", false)
  | 1 => ("DialDeskModel", "entries", "I", false)
  | 2 => ("DialDeskModel", "kind", "[I", true)
  | 3 => ("DialDeskModel", "area", "[I", true)
  | 4 => ("DialDeskModel", "prefix", "[I", true)
  | 5 => ("DialDeskModel", "set", "[I", true)
  | 6 => ("DialDeskModel", "least", "[I", true)
  | 7 => ("DialDeskModel", "most", "[I", true)
  | 8 => ("DialDeskModel", "first", "[I", true)
  | 9 => ("DialDeskModel", "last", "[I", true)
  | 10 => ("DialDeskModel", "cameOf", "[I", true)
  | 11 => ("DialDeskModel", "changed", "[I", true)
  | 12 => ("DialDeskModel", "rest", "[I", true)
  | 13 => ("DialDeskModel", "off", "[I", true)
  | 14 => ("DialDeskModel", "other", "[I", true)
  | 15 => ("DialDeskModel", "numbers", "[J", true)
  | 16 => ("DialDeskModel", "lines", "I", false)
  | 17 => ("DialDeskModel", "lBlock", "[I", true)
  | 18 => ("DialDeskModel", "lBehind", "[J", true)
  | 19 => ("DialDeskModel", "lFirst", "[I", true)
  | 20 => ("DialDeskModel", "lLast", "[I", true)
  | 21 => ("DialDeskModel", "ports", "I", false)
  | 22 => ("DialDeskModel", "pLine", "[I", true)
  | 23 => ("DialDeskModel", "pDay", "[I", true)
  | 24 => ("DialDeskModel", "pCarrier", "[I", true)
  | 25 => ("DialDeskModel", "cDay", "[I", true)
  | 26 => ("DialDeskModel", "cMany", "[I", true)
  | 27 => ("DialDeskModel", "cFigure", "[I", true)
  | 28 => ("DialDeskModel", "cAnswer", "[I", true)
  | 29 => ("DialDeskModel", "cOver", "[Z", true)
  | 30 => ("DialDeskModel", "cIs", "[Z", true)
  | 31 => ("DialDeskModel", "hand", "[I", true)
  | 32 => ("DialDeskModel", "held", "I", false)
  | 33 => ("DialDeskModel", "asked", "[I", true)
  | 34 => ("DialDeskModel", "askedMore", "[I", true)
  | 35 => ("DialDeskModel", "options", "I", false)
  | 36 => ("DialDeskModel", "cost", "[I", true)
  | _ => ("DialDeskModel", "base", "[J", true)
def tyX11 : Nat → FieldType := fun k => match k with
  | 0 => .int
  | 1 => .int
  | 2 => .array .int
  | 3 => .array .int
  | 4 => .array .int
  | 5 => .array .int
  | 6 => .array .int
  | 7 => .array .int
  | 8 => .array .int
  | 9 => .array .int
  | 10 => .array .int
  | 11 => .array .int
  | 12 => .array .int
  | 13 => .array .int
  | 14 => .array .int
  | 15 => .array .long
  | 16 => .int
  | 17 => .array .int
  | 18 => .array .long
  | 19 => .array .int
  | 20 => .array .int
  | 21 => .int
  | 22 => .array .int
  | 23 => .array .int
  | 24 => .array .int
  | 25 => .array .int
  | 26 => .array .int
  | 27 => .array .int
  | 28 => .array .int
  | 29 => .array .boolean
  | 30 => .array .boolean
  | 31 => .array .int
  | 32 => .int
  | 33 => .array .int
  | 34 => .array .int
  | 35 => .int
  | 36 => .array .int
  | _ => .array .long
theorem nmX11 : ∀ a, a < 38 → ∀ b, b < 38 → a ≠ b → (TX11 a).2.1 ≠ (TX11 b).2.1 := by decide +kernel
theorem tyX11_ok : ∀ k, k < 38 → parseFieldDescriptor (TX11 k).2.2.1 = some (tyX11 k) := by decide +kernel
abbrev cX11_init : ByteArray := prog_13_method_1_code
def yX11_init : MethodName := ⟨RX11, "<init>", "()V"⟩
abbrev cX11_in : ByteArray := prog_13_method_2_code
def yX11_in : MethodName := ⟨RX11, "in", "(JJJ)Z"⟩
abbrev cX11_isDay : ByteArray := prog_13_method_3_code
def yX11_isDay : MethodName := ⟨RX11, "isDay", "(I)Z"⟩
abbrev cX11_now : ByteArray := prog_13_method_4_code
def yX11_now : MethodName := ⟨RX11, "now", "(I)I"⟩
abbrev cX11_figuresOf : ByteArray := prog_13_method_5_code
def yX11_figuresOf : MethodName := ⟨RX11, "figuresOf", "(J)I"⟩
abbrev cX11_figureAt : ByteArray := prog_13_method_6_code
def yX11_figureAt : MethodName := ⟨RX11, "figureAt", "(JI)I"⟩
abbrev cX11_lengthOf : ByteArray := prog_13_method_7_code
def yX11_lengthOf : MethodName := ⟨RX11, "lengthOf", "(I)I"⟩
abbrev cX11_put : ByteArray := prog_13_method_8_code
def yX11_put : MethodName := ⟨RX11, "put", "(IIIIIIIII)I"⟩
abbrev cX11_add : ByteArray := prog_13_method_9_code
def yX11_add : MethodName := ⟨RX11, "add", "(IIIIIIIII)I"⟩
abbrev cX11_isFree : ByteArray := prog_13_method_10_code
def yX11_isFree : MethodName := ⟨RX11, "isFree", "(I)Z"⟩
abbrev cX11_mayBlock : ByteArray := prog_13_method_11_code
def yX11_mayBlock : MethodName := ⟨RX11, "mayBlock", "(IIIII)Z"⟩
abbrev cX11_block : ByteArray := prog_13_method_12_code
def yX11_block : MethodName := ⟨RX11, "block", "(IIIII)I"⟩
abbrev cX11_service : ByteArray := prog_13_method_13_code
def yX11_service : MethodName := ⟨RX11, "service", "(III)I"⟩
abbrev cX11_foreign : ByteArray := prog_13_method_14_code
def yX11_foreign : MethodName := ⟨RX11, "foreign", "(IIII)I"⟩
abbrev cX11_isEntry : ByteArray := prog_13_method_15_code
def yX11_isEntry : MethodName := ⟨RX11, "isEntry", "(I)Z"⟩
abbrev cX11_isForce : ByteArray := prog_13_method_16_code
def yX11_isForce : MethodName := ⟨RX11, "isForce", "(II)Z"⟩
abbrev cX11_mayEnd : ByteArray := prog_13_method_17_code
def yX11_mayEnd : MethodName := ⟨RX11, "mayEnd", "(II)Z"⟩
abbrev cX11_finish : ByteArray := prog_13_method_18_code
def yX11_finish : MethodName := ⟨RX11, "finish", "(II)I"⟩
abbrev cX11_mayChange : ByteArray := prog_13_method_19_code
def yX11_mayChange : MethodName := ⟨RX11, "mayChange", "(III)Z"⟩
abbrev cX11_park : ByteArray := prog_13_method_20_code
def yX11_park : MethodName := ⟨RX11, "park", "(IIIIII)V"⟩
abbrev cX11_split : ByteArray := prog_13_method_21_code
def yX11_split : MethodName := ⟨RX11, "split", "(IIIIII)I"⟩
abbrev cX11_lengthen : ByteArray := prog_13_method_22_code
def yX11_lengthen : MethodName := ⟨RX11, "lengthen", "(IIII)I"⟩
abbrev cX11_entry : ByteArray := prog_13_method_23_code
def yX11_entry : MethodName := ⟨RX11, "entry", "(II)I"⟩
abbrev cX11_may : ByteArray := prog_13_method_24_code
def yX11_may : MethodName := ⟨RX11, "may", "(II)I"⟩
abbrev cX11_begins : ByteArray := prog_13_method_25_code
def yX11_begins : MethodName := ⟨RX11, "begins", "(II)Z"⟩
abbrev cX11_isPair : ByteArray := prog_13_method_26_code
def yX11_isPair : MethodName := ⟨RX11, "isPair", "(II)Z"⟩
abbrev cX11_pairs : ByteArray := prog_13_method_27_code
def yX11_pairs : MethodName := ⟨RX11, "pairs", "(I)I"⟩
abbrev cX11_pair : ByteArray := prog_13_method_28_code
def yX11_pair : MethodName := ⟨RX11, "pair", "(III)I"⟩
abbrev cX11_follow : ByteArray := prog_13_method_29_code
def yX11_follow : MethodName := ⟨RX11, "follow", "(IJI)I"⟩
abbrev cX11_blockOf : ByteArray := prog_13_method_30_code
def yX11_blockOf : MethodName := ⟨RX11, "blockOf", "(II)I"⟩
abbrev cX11_lineOn : ByteArray := prog_13_method_31_code
def yX11_lineOn : MethodName := ⟨RX11, "lineOn", "(IJI)I"⟩
abbrev cX11_line : ByteArray := prog_13_method_32_code
def yX11_line : MethodName := ⟨RX11, "line", "(II)I"⟩
abbrev cX11_isLine : ByteArray := prog_13_method_33_code
def yX11_isLine : MethodName := ⟨RX11, "isLine", "(I)Z"⟩
abbrev cX11_drop : ByteArray := prog_13_method_34_code
def yX11_drop : MethodName := ⟨RX11, "drop", "(I)I"⟩
abbrev cX11_carrierOf : ByteArray := prog_13_method_35_code
def yX11_carrierOf : MethodName := ⟨RX11, "carrierOf", "(II)I"⟩
abbrev cX11_port : ByteArray := prog_13_method_36_code
def yX11_port : MethodName := ⟨RX11, "port", "(II)I"⟩
abbrev cX11_joined : ByteArray := prog_13_method_37_code
def yX11_joined : MethodName := ⟨RX11, "joined", "(JJ)J"⟩
abbrev cX11_numberOf : ByteArray := prog_13_method_38_code
def yX11_numberOf : MethodName := ⟨RX11, "numberOf", "(II)J"⟩
abbrev cX11_lineAt : ByteArray := prog_13_method_39_code
def yX11_lineAt : MethodName := ⟨RX11, "lineAt", "(III)I"⟩
abbrev cX11_isCall : ByteArray := prog_13_method_40_code
def yX11_isCall : MethodName := ⟨RX11, "isCall", "(I)Z"⟩
abbrev cX11_call : ByteArray := prog_13_method_41_code
def yX11_call : MethodName := ⟨RX11, "call", "(I)I"⟩
abbrev cX11_takeCall : ByteArray := prog_13_method_42_code
def yX11_takeCall : MethodName := ⟨RX11, "takeCall", "(I)V"⟩
abbrev cX11_takeNumber : ByteArray := prog_13_method_43_code
def yX11_takeNumber : MethodName := ⟨RX11, "takeNumber", "(J)V"⟩
abbrev cX11_isBegun : ByteArray := prog_13_method_44_code
def yX11_isBegun : MethodName := ⟨RX11, "isBegun", "(I)Z"⟩
abbrev cX11_isNumber : ByteArray := prog_13_method_45_code
def yX11_isNumber : MethodName := ⟨RX11, "isNumber", "(I)Z"⟩
abbrev cX11_goesOn : ByteArray := prog_13_method_46_code
def yX11_goesOn : MethodName := ⟨RX11, "goesOn", "(I)Z"⟩
abbrev cX11_answer : ByteArray := prog_13_method_47_code
def yX11_answer : MethodName := ⟨RX11, "answer", "(I)I"⟩
abbrev cX11_figure : ByteArray := prog_13_method_48_code
def yX11_figure : MethodName := ⟨RX11, "figure", "(II)I"⟩
abbrev cX11_waits : ByteArray := prog_13_method_49_code
def yX11_waits : MethodName := ⟨RX11, "waits", "(I)I"⟩
abbrev cX11_leadsTo : ByteArray := prog_13_method_50_code
def yX11_leadsTo : MethodName := ⟨RX11, "leadsTo", "(I)I"⟩
abbrev cX11_rank : ByteArray := prog_13_method_51_code
def yX11_rank : MethodName := ⟨RX11, "rank", "(I)I"⟩
abbrev cX11_lineOf : ByteArray := prog_13_method_52_code
def yX11_lineOf : MethodName := ⟨RX11, "lineOf", "(II)I"⟩
abbrev cX11_told : ByteArray := prog_13_method_53_code
def yX11_told : MethodName := ⟨RX11, "told", "(II)I"⟩
abbrev cX11_behind : ByteArray := prog_13_method_54_code
def yX11_behind : MethodName := ⟨RX11, "behind", "(I)I"⟩
abbrev cX11_toCome : ByteArray := prog_13_method_55_code
def yX11_toCome : MethodName := ⟨RX11, "toCome", "(IZ)I"⟩
abbrev cX11_leads : ByteArray := prog_13_method_56_code
def yX11_leads : MethodName := ⟨RX11, "leads", "(JI)I"⟩
abbrev cX11_demand : ByteArray := prog_13_method_57_code
def yX11_demand : MethodName := ⟨RX11, "demand", "(III)I"⟩
abbrev cX11_numbersOf : ByteArray := prog_13_method_58_code
def yX11_numbersOf : MethodName := ⟨RX11, "numbersOf", "(I)J"⟩
abbrev cX11_roomAt : ByteArray := prog_13_method_59_code
def yX11_roomAt : MethodName := ⟨RX11, "roomAt", "(II)J"⟩
abbrev cX11_room : ByteArray := prog_13_method_60_code
def yX11_room : MethodName := ⟨RX11, "room", "(II)J"⟩
abbrev cX11_makeBase : ByteArray := prog_13_method_61_code
def yX11_makeBase : MethodName := ⟨RX11, "makeBase", "(I)V"⟩
abbrev cX11_shortageWith : ByteArray := prog_13_method_62_code
def yX11_shortageWith : MethodName := ⟨RX11, "shortageWith", "(II)I"⟩
abbrev cX11_shortage : ByteArray := prog_13_method_63_code
def yX11_shortage : MethodName := ⟨RX11, "shortage", "(I)I"⟩
abbrev cX11_mightCome : ByteArray := prog_13_method_64_code
def yX11_mightCome : MethodName := ⟨RX11, "mightCome", "(IIIIII)I"⟩
abbrev cX11_mayAll : ByteArray := prog_13_method_65_code
def yX11_mayAll : MethodName := ⟨RX11, "mayAll", "(I)Z"⟩
abbrev cX11_relief : ByteArray := prog_13_method_66_code
def yX11_relief : MethodName := ⟨RX11, "relief", "(II)I"⟩
abbrev cX11_take : ByteArray := prog_13_method_67_code
def yX11_take : MethodName := ⟨RX11, "take", "(I)I"⟩
abbrev cX11_count : ByteArray := prog_13_method_68_code
def yX11_count : MethodName := ⟨RX11, "count", "(I)I"⟩
def RJ6 : String := "java/lang/Integer"
def TJ6 : u_T := fun k => match k with
  | _ => ("", "", "", false)
def tyJ6 : Nat → FieldType := fun k => match k with
  | _ => .int
abbrev cJ6_bitCount_0f7a4 : ByteArray := prog_14_method_49_code
def yJ6_bitCount_0f7a4 : MethodName := ⟨RJ6, "bitCount", "(I)I"⟩
def RJ13 : String := "java/lang/Long"
def TJ13 : u_T := fun k => match k with
  | _ => ("", "", "", false)
def tyJ13 : Nat → FieldType := fun k => match k with
  | _ => .int
abbrev cJ13_bitCount_95d88 : ByteArray := prog_15_method_50_code
def yJ13_bitCount_95d88 : MethodName := ⟨RJ13, "bitCount", "(J)I"⟩
def RJ9 : String := "java/lang/Math"
def TJ9 : u_T := fun k => match k with
  | _ => ("", "", "", false)
def tyJ9 : Nat → FieldType := fun k => match k with
  | _ => .int
abbrev cJ9_max_7cf53 : ByteArray := prog_16_method_65_code
def yJ9_max_7cf53 : MethodName := ⟨RJ9, "max", "(II)I"⟩
abbrev cJ9_min_7cf53 : ByteArray := prog_16_method_69_code
def yJ9_min_7cf53 : MethodName := ⟨RJ9, "min", "(II)I"⟩
abbrev cJ9_min_f86c9 : ByteArray := prog_16_method_70_code
def yJ9_min_f86c9 : MethodName := ⟨RJ9, "min", "(JJ)J"⟩
def RL : String := "DialDeskLaw"
abbrev cL_law : ByteArray := code
def yL_law : MethodName := ⟨RL, "law", "([I)Z"⟩
abbrev vwCl : List vw_C := [(RX0, TX0, 6), (RX1, TX1, 3), (RX2, TX2, 18), (RX3, TX3, 6), (RX4, TX4, 3), (RX5, TX5, 2), (RX6, TX6, 5), (RX7, TX7, 3), (RX8, TX8, 4), (RX9, TX9, 7), (RX10, TX10, 5), (RX11, TX11, 38)]
