set_option maxRecDepth 100000 in
theorem oi_X0_3 : decide (Cond.methodLink "DialDesk$Call" 3 objectInit ∈ lw_tbl) = true := decide_eq_true (List.mem_of_getElem? (i := 147) rfl)
theorem im_obj : decide (Cond.instanceMethod objectInit ∈ lw_tbl) = true := by decide +kernel
theorem co_obj : decide (Cond.code objectInit ⟨#[0xb1]⟩ 1 none ∈ lw_tbl) = true := by decide +kernel
set_option maxRecDepth 100000 in
theorem fq_X0_9 : fq_ok "DialDesk$Call" 9 0 0 .boolean false = true := fq_mk (RX0, TX0, 6) rfl (by decide +kernel) (List.mem_of_getElem? (i := 148) rfl)
set_option maxRecDepth 100000 in
theorem fq_X0_15 : fq_ok "DialDesk$Call" 15 0 1 .boolean false = true := fq_mk (RX0, TX0, 6) rfl (by decide +kernel) (List.mem_of_getElem? (i := 150) rfl)
set_option maxRecDepth 100000 in
theorem fq_X0_18 : fq_ok "DialDesk$Call" 18 0 2 .int false = true := fq_mk (RX0, TX0, 6) rfl (by decide +kernel) (List.mem_of_getElem? (i := 152) rfl)
set_option maxRecDepth 100000 in
theorem fq_X0_22 : fq_ok "DialDesk$Call" 22 0 3 .int false = true := fq_mk (RX0, TX0, 6) rfl (by decide +kernel) (List.mem_of_getElem? (i := 154) rfl)
set_option maxRecDepth 100000 in
theorem fq_X0_25 : fq_ok "DialDesk$Call" 25 0 4 .int false = true := fq_mk (RX0, TX0, 6) rfl (by decide +kernel) (List.mem_of_getElem? (i := 156) rfl)
set_option maxRecDepth 100000 in
theorem fq_X0_28 : fq_ok "DialDesk$Call" 28 0 5 .long false = true := fq_mk (RX0, TX0, 6) rfl (by decide +kernel) (List.mem_of_getElem? (i := 158) rfl)
set_option maxRecDepth 100000 in
theorem fl_X0_9 : fl_ok "DialDesk$Call" 9 0 0 0 = true := fl_mk (RX0, TX0, 6) rfl (by decide +kernel) (List.mem_of_getElem? (i := 148) rfl)
set_option maxRecDepth 100000 in
theorem fl_X0_15 : fl_ok "DialDesk$Call" 15 0 1 0 = true := fl_mk (RX0, TX0, 6) rfl (by decide +kernel) (List.mem_of_getElem? (i := 150) rfl)
set_option maxRecDepth 100000 in
theorem fl_X0_28 : fl_ok "DialDesk$Call" 28 0 5 1 = true := fl_mk (RX0, TX0, 6) rfl (by decide +kernel) (List.mem_of_getElem? (i := 158) rfl)
set_option maxRecDepth 100000 in
theorem kl_X0_32 : decide (Cond.constantLong "DialDesk$Call" 32 10 ∈ lw_tbl) = true := decide_eq_true (List.mem_of_getElem? (i := 636) rfl)
set_option maxRecDepth 100000 in
theorem fl_X0_25 : fl_ok "DialDesk$Call" 25 0 4 0 = true := fl_mk (RX0, TX0, 6) rfl (by decide +kernel) (List.mem_of_getElem? (i := 156) rfl)
set_option maxRecDepth 100000 in
theorem oi_X1_3 : decide (Cond.methodLink "DialDesk$Demand" 3 objectInit ∈ lw_tbl) = true := decide_eq_true (List.mem_of_getElem? (i := 185) rfl)
set_option maxRecDepth 100000 in
theorem fq_X1_9 : fq_ok "DialDesk$Demand" 9 1 0 .int true = true := fq_mk (RX1, TX1, 3) rfl (by decide +kernel) (List.mem_of_getElem? (i := 186) rfl)
set_option maxRecDepth 100000 in
theorem fl_X1_15 : fl_ok "DialDesk$Demand" 15 1 1 0 = true := fl_mk (RX1, TX1, 3) rfl (by decide +kernel) (List.mem_of_getElem? (i := 188) rfl)
set_option maxRecDepth 100000 in
theorem fl_X1_18 : fl_ok "DialDesk$Demand" 18 1 2 0 = true := fl_mk (RX1, TX1, 3) rfl (by decide +kernel) (List.mem_of_getElem? (i := 190) rfl)
set_option maxRecDepth 100000 in
theorem mb_X1_askedIn : mb_ok mX1_askedIn 1 = true := mb_mk (List.mem_of_getElem? (i := 764) rfl) (List.mem_of_getElem? (i := 58) rfl) (by decide +kernel)
set_option maxRecDepth 100000 in
theorem ml_X1_21 : decide (Cond.methodLink "DialDesk$Demand" 21 yX1_askedIn ∈ lw_tbl) = true := decide_eq_true (List.mem_of_getElem? (i := 761) rfl)
set_option maxRecDepth 100000 in
theorem im_X1_askedIn : decide (Cond.instanceMethod yX1_askedIn ∈ lw_tbl) = true := decide_eq_true (List.mem_of_getElem? (i := 762) rfl)
set_option maxRecDepth 100000 in
theorem se_X1_askedIn : decide (Cond.selects "DialDesk$Demand" yX1_askedIn yX1_askedIn ∈ lw_tbl) = true := decide_eq_true (List.mem_of_getElem? (i := 763) rfl)
set_option maxRecDepth 100000 in
theorem kl_X1_25 : decide (Cond.constantLong "DialDesk$Demand" 25 2001 ∈ lw_tbl) = true := decide_eq_true (List.mem_of_getElem? (i := 765) rfl)
set_option maxRecDepth 100000 in
theorem mb_J9_min_f86c9 : mb_ok mJ9_min_f86c9 2 = true := mb_mk (List.mem_of_getElem? (i := 768) rfl) (List.mem_of_getElem? (i := 61) rfl) (by decide +kernel)
set_option maxRecDepth 100000 in
theorem ml_X1_27 : decide (Cond.methodLink "DialDesk$Demand" 27 yJ9_min_f86c9 ∈ lw_tbl) = true := decide_eq_true (List.mem_of_getElem? (i := 766) rfl)
set_option maxRecDepth 100000 in
theorem sc_J9_min_f86c9 : decide (Cond.static yJ9_min_f86c9 ∈ lw_tbl) = true := decide_eq_true (List.mem_of_getElem? (i := 767) rfl)
theorem gs_X10_294 : decide (Cond.fieldLink "DialDesk" 294 "DialDesk" "TENS" "[J" ∈ lw_tbl) = true := by decide +kernel
set_option maxRecDepth 100000 in
theorem kl_X10_298 : decide (Cond.constantLong "DialDesk" 298 2 ∈ lw_tbl) = true := decide_eq_true (List.mem_of_getElem? (i := 265) rfl)
set_option maxRecDepth 100000 in
theorem mb_X10_withoutLast : mb_ok mX10_withoutLast 2 = true := mb_mk (List.mem_of_getElem? (i := 278) rfl) (List.mem_of_getElem? (i := 52) rfl) (by decide +kernel)
set_option maxRecDepth 100000 in
theorem ml_X10_303 : decide (Cond.methodLink "DialDesk" 303 yX10_withoutLast ∈ lw_tbl) = true := decide_eq_true (List.mem_of_getElem? (i := 276) rfl)
set_option maxRecDepth 100000 in
theorem sc_X10_withoutLast : decide (Cond.static yX10_withoutLast ∈ lw_tbl) = true := decide_eq_true (List.mem_of_getElem? (i := 277) rfl)
set_option maxRecDepth 100000 in
theorem kl_X10_307 : decide (Cond.constantLong "DialDesk" 307 10 ∈ lw_tbl) = true := decide_eq_true (List.mem_of_getElem? (i := 279) rfl)
theorem nzL_10 : ¬ (10 : Int64) = 0 := by decide +kernel
set_option maxRecDepth 100000 in
theorem oi_X2_3 : decide (Cond.methodLink "DialDesk$Entry" 3 objectInit ∈ lw_tbl) = true := decide_eq_true (List.mem_of_getElem? (i := 271) rfl)
set_option maxRecDepth 100000 in
theorem fq_X2_9 : fq_ok "DialDesk$Entry" 9 2 0 .int true = true := fq_mk (RX2, TX2, 18) rfl (by decide +kernel) (List.mem_of_getElem? (i := 280) rfl)
set_option maxRecDepth 100000 in
theorem fq_X2_15 : fq_ok "DialDesk$Entry" 15 2 1 .int true = true := fq_mk (RX2, TX2, 18) rfl (by decide +kernel) (List.mem_of_getElem? (i := 284) rfl)
set_option maxRecDepth 100000 in
theorem fq_X2_18 : fq_ok "DialDesk$Entry" 18 2 2 .int true = true := fq_mk (RX2, TX2, 18) rfl (by decide +kernel) (List.mem_of_getElem? (i := 288) rfl)
set_option maxRecDepth 100000 in
theorem mb_X10_placesOf : mb_ok mX10_placesOf 1 = true := mb_mk (List.mem_of_getElem? (i := 262) rfl) (List.mem_of_getElem? (i := 52) rfl) (by decide +kernel)
set_option maxRecDepth 100000 in
theorem mn_X2_21 : decide (Cond.methodLinkNest "DialDesk$Entry" 21 yX10_placesOf "DialDesk" ∈ lw_tbl) = true := decide_eq_true (List.mem_of_getElem? (i := 272) rfl)
set_option maxRecDepth 100000 in
theorem sc_X10_placesOf : decide (Cond.static yX10_placesOf ∈ lw_tbl) = true := decide_eq_true (List.mem_of_getElem? (i := 261) rfl)
set_option maxRecDepth 100000 in
theorem fq_X2_25 : fq_ok "DialDesk$Entry" 25 2 3 .int true = true := fq_mk (RX2, TX2, 18) rfl (by decide +kernel) (List.mem_of_getElem? (i := 291) rfl)
set_option maxRecDepth 100000 in
theorem fq_X2_28 : fq_ok "DialDesk$Entry" 28 2 4 .int true = true := fq_mk (RX2, TX2, 18) rfl (by decide +kernel) (List.mem_of_getElem? (i := 294) rfl)
set_option maxRecDepth 100000 in
theorem fq_X2_31 : fq_ok "DialDesk$Entry" 31 2 5 .int true = true := fq_mk (RX2, TX2, 18) rfl (by decide +kernel) (List.mem_of_getElem? (i := 297) rfl)
set_option maxRecDepth 100000 in
theorem fq_X2_34 : fq_ok "DialDesk$Entry" 34 2 6 .int true = true := fq_mk (RX2, TX2, 18) rfl (by decide +kernel) (List.mem_of_getElem? (i := 301) rfl)
set_option maxRecDepth 100000 in
theorem fq_X2_37 : fq_ok "DialDesk$Entry" 37 2 7 .int true = true := fq_mk (RX2, TX2, 18) rfl (by decide +kernel) (List.mem_of_getElem? (i := 304) rfl)
theorem ac_int : decide (Cond.arrayClass (newarray.typeOf .int) ∈ lw_tbl) = true := by decide +kernel
set_option maxRecDepth 100000 in
theorem fq_X2_40 : fq_ok "DialDesk$Entry" 40 2 8 (.array .int) true = true := fq_mk (RX2, TX2, 18) rfl (by decide +kernel) (List.mem_of_getElem? (i := 308) rfl)
set_option maxRecDepth 100000 in
theorem fl_X2_40 : fl_ok "DialDesk$Entry" 40 2 8 2 = true := fl_mk (RX2, TX2, 18) rfl (by decide +kernel) (List.mem_of_getElem? (i := 308) rfl)
set_option maxRecDepth 100000 in
theorem fq_X2_48 : fq_ok "DialDesk$Entry" 48 2 9 .int false = true := fq_mk (RX2, TX2, 18) rfl (by decide +kernel) (List.mem_of_getElem? (i := 309) rfl)
set_option maxRecDepth 100000 in
theorem fq_X2_51 : fq_ok "DialDesk$Entry" 51 2 10 .int false = true := fq_mk (RX2, TX2, 18) rfl (by decide +kernel) (List.mem_of_getElem? (i := 312) rfl)
set_option maxRecDepth 100000 in
theorem fq_X2_54 : fq_ok "DialDesk$Entry" 54 2 11 .int false = true := fq_mk (RX2, TX2, 18) rfl (by decide +kernel) (List.mem_of_getElem? (i := 315) rfl)
set_option maxRecDepth 100000 in
theorem fq_X2_57 : fq_ok "DialDesk$Entry" 57 2 12 .int false = true := fq_mk (RX2, TX2, 18) rfl (by decide +kernel) (List.mem_of_getElem? (i := 317) rfl)
set_option maxRecDepth 100000 in
theorem fl_X2_25 : fl_ok "DialDesk$Entry" 25 2 3 0 = true := fl_mk (RX2, TX2, 18) rfl (by decide +kernel) (List.mem_of_getElem? (i := 291) rfl)
set_option maxRecDepth 100000 in
theorem mb_X10_figureBit : mb_ok mX10_figureBit 3 = true := mb_mk (List.mem_of_getElem? (i := 275) rfl) (List.mem_of_getElem? (i := 52) rfl) (by decide +kernel)
set_option maxRecDepth 100000 in
theorem mn_X2_44 : decide (Cond.methodLinkNest "DialDesk$Entry" 44 yX10_figureBit "DialDesk" ∈ lw_tbl) = true := decide_eq_true (List.mem_of_getElem? (i := 273) rfl)
set_option maxRecDepth 100000 in
theorem sc_X10_figureBit : decide (Cond.static yX10_figureBit ∈ lw_tbl) = true := decide_eq_true (List.mem_of_getElem? (i := 274) rfl)
set_option maxRecDepth 100000 in
theorem fl_X2_9 : fl_ok "DialDesk$Entry" 9 2 0 0 = true := fl_mk (RX2, TX2, 18) rfl (by decide +kernel) (List.mem_of_getElem? (i := 280) rfl)
set_option maxRecDepth 100000 in
theorem fl_X2_15 : fl_ok "DialDesk$Entry" 15 2 1 0 = true := fl_mk (RX2, TX2, 18) rfl (by decide +kernel) (List.mem_of_getElem? (i := 284) rfl)
set_option maxRecDepth 100000 in
theorem fl_X2_18 : fl_ok "DialDesk$Entry" 18 2 2 0 = true := fl_mk (RX2, TX2, 18) rfl (by decide +kernel) (List.mem_of_getElem? (i := 288) rfl)
set_option maxRecDepth 100000 in
theorem fl_X2_28 : fl_ok "DialDesk$Entry" 28 2 4 0 = true := fl_mk (RX2, TX2, 18) rfl (by decide +kernel) (List.mem_of_getElem? (i := 294) rfl)
set_option maxRecDepth 100000 in
theorem fl_X2_31 : fl_ok "DialDesk$Entry" 31 2 5 0 = true := fl_mk (RX2, TX2, 18) rfl (by decide +kernel) (List.mem_of_getElem? (i := 297) rfl)
set_option maxRecDepth 100000 in
theorem fl_X2_34 : fl_ok "DialDesk$Entry" 34 2 6 0 = true := fl_mk (RX2, TX2, 18) rfl (by decide +kernel) (List.mem_of_getElem? (i := 301) rfl)
set_option maxRecDepth 100000 in
theorem fl_X2_37 : fl_ok "DialDesk$Entry" 37 2 7 0 = true := fl_mk (RX2, TX2, 18) rfl (by decide +kernel) (List.mem_of_getElem? (i := 304) rfl)
set_option maxRecDepth 100000 in
theorem fl_X2_51 : fl_ok "DialDesk$Entry" 51 2 10 0 = true := fl_mk (RX2, TX2, 18) rfl (by decide +kernel) (List.mem_of_getElem? (i := 312) rfl)
set_option maxRecDepth 100000 in
theorem fl_X2_54 : fl_ok "DialDesk$Entry" 54 2 11 0 = true := fl_mk (RX2, TX2, 18) rfl (by decide +kernel) (List.mem_of_getElem? (i := 315) rfl)
set_option maxRecDepth 100000 in
theorem mb_J9_min_7cf53 : mb_ok mJ9_min_7cf53 2 = true := mb_mk (List.mem_of_getElem? (i := 436) rfl) (List.mem_of_getElem? (i := 61) rfl) (by decide +kernel)
set_option maxRecDepth 100000 in
theorem ml_X2_60 : decide (Cond.methodLink "DialDesk$Entry" 60 yJ9_min_7cf53 ∈ lw_tbl) = true := decide_eq_true (List.mem_of_getElem? (i := 649) rfl)
set_option maxRecDepth 100000 in
theorem sc_J9_min_7cf53 : decide (Cond.static yJ9_min_7cf53 ∈ lw_tbl) = true := decide_eq_true (List.mem_of_getElem? (i := 435) rfl)
set_option maxRecDepth 100000 in
theorem mn_X2_66 : decide (Cond.methodLinkNest "DialDesk$Entry" 66 yX10_withoutLast "DialDesk" ∈ lw_tbl) = true := decide_eq_true (List.mem_of_getElem? (i := 650) rfl)
set_option maxRecDepth 100000 in
theorem mb_X2_figuresAt : mb_ok mX2_figuresAt 1 = true := mb_mk (List.mem_of_getElem? (i := 386) rfl) (List.mem_of_getElem? (i := 60) rfl) (by decide +kernel)
set_option maxRecDepth 100000 in
theorem ml_X2_70 : decide (Cond.methodLink "DialDesk$Entry" 70 yX2_figuresAt ∈ lw_tbl) = true := decide_eq_true (List.mem_of_getElem? (i := 383) rfl)
set_option maxRecDepth 100000 in
theorem im_X2_figuresAt : decide (Cond.instanceMethod yX2_figuresAt ∈ lw_tbl) = true := decide_eq_true (List.mem_of_getElem? (i := 384) rfl)
set_option maxRecDepth 100000 in
theorem se_X2_figuresAt : decide (Cond.selects "DialDesk$Entry" yX2_figuresAt yX2_figuresAt ∈ lw_tbl) = true := decide_eq_true (List.mem_of_getElem? (i := 385) rfl)
set_option maxRecDepth 100000 in
theorem mb_X2_fits : mb_ok mX2_fits 2 = true := mb_mk (List.mem_of_getElem? (i := 648) rfl) (List.mem_of_getElem? (i := 60) rfl) (by decide +kernel)
set_option maxRecDepth 100000 in
theorem ml_X2_74 : decide (Cond.methodLink "DialDesk$Entry" 74 yX2_fits ∈ lw_tbl) = true := decide_eq_true (List.mem_of_getElem? (i := 684) rfl)
set_option maxRecDepth 100000 in
theorem im_X2_fits : decide (Cond.instanceMethod yX2_fits ∈ lw_tbl) = true := decide_eq_true (List.mem_of_getElem? (i := 646) rfl)
set_option maxRecDepth 100000 in
theorem se_X2_fits : decide (Cond.selects "DialDesk$Entry" yX2_fits yX2_fits ∈ lw_tbl) = true := decide_eq_true (List.mem_of_getElem? (i := 647) rfl)
set_option maxRecDepth 100000 in
theorem mb_X2_placesBehind : mb_ok mX2_placesBehind 0 = true := mb_mk (List.mem_of_getElem? (i := 423) rfl) (List.mem_of_getElem? (i := 60) rfl) (by decide +kernel)
set_option maxRecDepth 100000 in
theorem ml_X2_78 : decide (Cond.methodLink "DialDesk$Entry" 78 yX2_placesBehind ∈ lw_tbl) = true := decide_eq_true (List.mem_of_getElem? (i := 503) rfl)
set_option maxRecDepth 100000 in
theorem im_X2_placesBehind : decide (Cond.instanceMethod yX2_placesBehind ∈ lw_tbl) = true := decide_eq_true (List.mem_of_getElem? (i := 421) rfl)
set_option maxRecDepth 100000 in
theorem se_X2_placesBehind : decide (Cond.selects "DialDesk$Entry" yX2_placesBehind yX2_placesBehind ∈ lw_tbl) = true := decide_eq_true (List.mem_of_getElem? (i := 422) rfl)
set_option maxRecDepth 100000 in
theorem mb_X10_tens : mb_ok mX10_tens 1 = true := mb_mk (List.mem_of_getElem? (i := 606) rfl) (List.mem_of_getElem? (i := 52) rfl) (by decide +kernel)
set_option maxRecDepth 100000 in
theorem mn_X2_82 : decide (Cond.methodLinkNest "DialDesk$Entry" 82 yX10_tens "DialDesk" ∈ lw_tbl) = true := decide_eq_true (List.mem_of_getElem? (i := 604) rfl)
set_option maxRecDepth 100000 in
theorem sc_X10_tens : decide (Cond.static yX10_tens ∈ lw_tbl) = true := decide_eq_true (List.mem_of_getElem? (i := 605) rfl)
set_option maxRecDepth 100000 in
theorem fl_X2_90 : fl_ok "DialDesk$Entry" 90 2 17 1 = true := fl_mk (RX2, TX2, 18) rfl (by decide +kernel) (List.mem_of_getElem? (i := 329) rfl)
set_option maxRecDepth 100000 in
theorem fq_X2_90 : fq_ok "DialDesk$Entry" 90 2 17 .long false = true := fq_mk (RX2, TX2, 18) rfl (by decide +kernel) (List.mem_of_getElem? (i := 329) rfl)
set_option maxRecDepth 100000 in
theorem fl_X2_86 : fl_ok "DialDesk$Entry" 86 2 16 1 = true := fl_mk (RX2, TX2, 18) rfl (by decide +kernel) (List.mem_of_getElem? (i := 327) rfl)
set_option maxRecDepth 100000 in
theorem fq_X2_86 : fq_ok "DialDesk$Entry" 86 2 16 .long false = true := fq_mk (RX2, TX2, 18) rfl (by decide +kernel) (List.mem_of_getElem? (i := 327) rfl)
set_option maxRecDepth 100000 in
theorem fl_X2_97 : fl_ok "DialDesk$Entry" 97 2 13 2 = true := fl_mk (RX2, TX2, 18) rfl (by decide +kernel) (List.mem_of_getElem? (i := 321) rfl)
set_option maxRecDepth 100000 in
theorem fl_X2_57 : fl_ok "DialDesk$Entry" 57 2 12 0 = true := fl_mk (RX2, TX2, 18) rfl (by decide +kernel) (List.mem_of_getElem? (i := 317) rfl)
set_option maxRecDepth 100000 in
theorem fl_X2_101 : fl_ok "DialDesk$Entry" 101 2 14 2 = true := fl_mk (RX2, TX2, 18) rfl (by decide +kernel) (List.mem_of_getElem? (i := 323) rfl)
set_option maxRecDepth 100000 in
theorem mb_X2_nextFor : mb_ok mX2_nextFor 1 = true := mb_mk (List.mem_of_getElem? (i := 523) rfl) (List.mem_of_getElem? (i := 60) rfl) (by decide +kernel)
set_option maxRecDepth 100000 in
theorem ml_X2_93 : decide (Cond.methodLink "DialDesk$Entry" 93 yX2_nextFor ∈ lw_tbl) = true := decide_eq_true (List.mem_of_getElem? (i := 520) rfl)
set_option maxRecDepth 100000 in
theorem im_X2_nextFor : decide (Cond.instanceMethod yX2_nextFor ∈ lw_tbl) = true := decide_eq_true (List.mem_of_getElem? (i := 522) rfl)
set_option maxRecDepth 100000 in
theorem se_X2_nextFor : decide (Cond.selects "DialDesk$Entry" yX2_nextFor yX2_nextFor ∈ lw_tbl) = true := decide_eq_true (List.mem_of_getElem? (i := 6) rfl)
set_option maxRecDepth 100000 in
theorem ki_J6_265 : decide (Cond.constant "java/lang/Integer" 265 1431655765 ∈ lw_tbl) = true := decide_eq_true (List.mem_of_getElem? (i := 735) rfl)
set_option maxRecDepth 100000 in
theorem ki_J6_266 : decide (Cond.constant "java/lang/Integer" 266 858993459 ∈ lw_tbl) = true := decide_eq_true (List.mem_of_getElem? (i := 736) rfl)
set_option maxRecDepth 100000 in
theorem ki_J6_267 : decide (Cond.constant "java/lang/Integer" 267 252645135 ∈ lw_tbl) = true := decide_eq_true (List.mem_of_getElem? (i := 737) rfl)
set_option maxRecDepth 100000 in
theorem mb_X2_isInForce : mb_ok mX2_isInForce 1 = true := mb_mk (List.mem_of_getElem? (i := 467) rfl) (List.mem_of_getElem? (i := 60) rfl) (by decide +kernel)
set_option maxRecDepth 100000 in
theorem ml_X2_104 : decide (Cond.methodLink "DialDesk$Entry" 104 yX2_isInForce ∈ lw_tbl) = true := decide_eq_true (List.mem_of_getElem? (i := 731) rfl)
set_option maxRecDepth 100000 in
theorem im_X2_isInForce : decide (Cond.instanceMethod yX2_isInForce ∈ lw_tbl) = true := decide_eq_true (List.mem_of_getElem? (i := 465) rfl)
set_option maxRecDepth 100000 in
theorem se_X2_isInForce : decide (Cond.selects "DialDesk$Entry" yX2_isInForce yX2_isInForce ∈ lw_tbl) = true := decide_eq_true (List.mem_of_getElem? (i := 466) rfl)
set_option maxRecDepth 100000 in
theorem mb_J6_bitCount_0f7a4 : mb_ok mJ6_bitCount_0f7a4 1 = true := mb_mk (List.mem_of_getElem? (i := 734) rfl) (List.mem_of_getElem? (i := 65) rfl) (by decide +kernel)
set_option maxRecDepth 100000 in
theorem ml_X2_108 : decide (Cond.methodLink "DialDesk$Entry" 108 yJ6_bitCount_0f7a4 ∈ lw_tbl) = true := decide_eq_true (List.mem_of_getElem? (i := 732) rfl)
set_option maxRecDepth 100000 in
theorem sc_J6_bitCount_0f7a4 : decide (Cond.static yJ6_bitCount_0f7a4 ∈ lw_tbl) = true := decide_eq_true (List.mem_of_getElem? (i := 733) rfl)
set_option maxRecDepth 100000 in
theorem oi_X3_3 : decide (Cond.methodLink "DialDesk$Line" 3 objectInit ∈ lw_tbl) = true := decide_eq_true (List.mem_of_getElem? (i := 532) rfl)
set_option maxRecDepth 100000 in
theorem fq_X3_9 : fq_ok "DialDesk$Line" 9 3 0 (.object "DialDesk$Entry") true = true := fq_mk (RX3, TX3, 6) rfl (by decide +kernel) (List.mem_of_getElem? (i := 535) rfl)
set_option maxRecDepth 100000 in
theorem fq_X3_15 : fq_ok "DialDesk$Line" 15 3 1 .int true = true := fq_mk (RX3, TX3, 6) rfl (by decide +kernel) (List.mem_of_getElem? (i := 536) rfl)
set_option maxRecDepth 100000 in
theorem mn_X3_19 : decide (Cond.methodLinkNest "DialDesk$Line" 19 yX10_placesOf "DialDesk" ∈ lw_tbl) = true := decide_eq_true (List.mem_of_getElem? (i := 533) rfl)
set_option maxRecDepth 100000 in
theorem mn_X3_23 : decide (Cond.methodLinkNest "DialDesk$Line" 23 yX10_figureBit "DialDesk" ∈ lw_tbl) = true := decide_eq_true (List.mem_of_getElem? (i := 534) rfl)
set_option maxRecDepth 100000 in
theorem fq_X3_27 : fq_ok "DialDesk$Line" 27 3 2 .int true = true := fq_mk (RX3, TX3, 6) rfl (by decide +kernel) (List.mem_of_getElem? (i := 539) rfl)
set_option maxRecDepth 100000 in
theorem fq_X3_30 : fq_ok "DialDesk$Line" 30 3 3 .int true = true := fq_mk (RX3, TX3, 6) rfl (by decide +kernel) (List.mem_of_getElem? (i := 540) rfl)
set_option maxRecDepth 100000 in
theorem fq_X3_33 : fq_ok "DialDesk$Line" 33 3 4 .int false = true := fq_mk (RX3, TX3, 6) rfl (by decide +kernel) (List.mem_of_getElem? (i := 541) rfl)
set_option maxRecDepth 100000 in
theorem fl_X3_9 : fl_ok "DialDesk$Line" 9 3 0 2 = true := fl_mk (RX3, TX3, 6) rfl (by decide +kernel) (List.mem_of_getElem? (i := 535) rfl)
set_option maxRecDepth 100000 in
theorem fl_X3_30 : fl_ok "DialDesk$Line" 30 3 3 0 = true := fl_mk (RX3, TX3, 6) rfl (by decide +kernel) (List.mem_of_getElem? (i := 540) rfl)
set_option maxRecDepth 100000 in
theorem fl_X3_33 : fl_ok "DialDesk$Line" 33 3 4 0 = true := fl_mk (RX3, TX3, 6) rfl (by decide +kernel) (List.mem_of_getElem? (i := 541) rfl)
set_option maxRecDepth 100000 in
theorem fl_X3_27 : fl_ok "DialDesk$Line" 27 3 2 0 = true := fl_mk (RX3, TX3, 6) rfl (by decide +kernel) (List.mem_of_getElem? (i := 539) rfl)
set_option maxRecDepth 100000 in
theorem mb_X2_followedTo : mb_ok mX2_followedTo 2 = true := mb_mk (List.mem_of_getElem? (i := 519) rfl) (List.mem_of_getElem? (i := 60) rfl) (by decide +kernel)
set_option maxRecDepth 100000 in
theorem ml_X3_36 : decide (Cond.methodLink "DialDesk$Line" 36 yX2_followedTo ∈ lw_tbl) = true := decide_eq_true (List.mem_of_getElem? (i := 516) rfl)
set_option maxRecDepth 100000 in
theorem im_X2_followedTo : decide (Cond.instanceMethod yX2_followedTo ∈ lw_tbl) = true := decide_eq_true (List.mem_of_getElem? (i := 517) rfl)
set_option maxRecDepth 100000 in
theorem se_X2_followedTo : decide (Cond.selects "DialDesk$Entry" yX2_followedTo yX2_followedTo ∈ lw_tbl) = true := decide_eq_true (List.mem_of_getElem? (i := 518) rfl)
set_option maxRecDepth 100000 in
theorem fl_X3_42 : fl_ok "DialDesk$Line" 42 3 5 2 = true := fl_mk (RX3, TX3, 6) rfl (by decide +kernel) (List.mem_of_getElem? (i := 543) rfl)
set_option maxRecDepth 100000 in
theorem fl_X3_46 : fl_ok "DialDesk$Line" 46 7 1 0 = true := fl_mk (RX7, TX7, 3) rfl (by decide +kernel) (List.mem_of_getElem? (i := 584) rfl)
set_option maxRecDepth 100000 in
theorem fl_X3_54 : fl_ok "DialDesk$Line" 54 7 2 2 = true := fl_mk (RX7, TX7, 3) rfl (by decide +kernel) (List.mem_of_getElem? (i := 586) rfl)
set_option maxRecDepth 100000 in
theorem fl_X3_51 : fl_ok "DialDesk$Line" 51 7 0 0 = true := fl_mk (RX7, TX7, 3) rfl (by decide +kernel) (List.mem_of_getElem? (i := 582) rfl)
set_option maxRecDepth 100000 in
theorem oi_X4_3 : decide (Cond.methodLink "DialDesk$Lines" 3 objectInit ∈ lw_tbl) = true := decide_eq_true (List.mem_of_getElem? (i := 127) rfl)
theorem ao_26 : decide (Cond.arrayOver (.object "DialDesk$Line") ∈ lw_tbl) = true := by decide +kernel
set_option maxRecDepth 100000 in
theorem cl_X4_9 : decide (Cond.classLink "DialDesk$Lines" 9 "DialDesk$Line" ∈ lw_tbl) = true := decide_eq_true (List.mem_of_getElem? (i := 128) rfl)
set_option maxRecDepth 100000 in
theorem fq_X4_11 : fq_ok "DialDesk$Lines" 11 4 0 (.array (.object "DialDesk$Line")) true = true := fq_mk (RX4, TX4, 3) rfl (by decide +kernel) (List.mem_of_getElem? (i := 130) rfl)
set_option maxRecDepth 100000 in
theorem fq_X4_17 : fq_ok "DialDesk$Lines" 17 4 1 .int false = true := fq_mk (RX4, TX4, 3) rfl (by decide +kernel) (List.mem_of_getElem? (i := 131) rfl)
set_option maxRecDepth 100000 in
theorem fq_X4_21 : fq_ok "DialDesk$Lines" 21 4 2 .int false = true := fq_mk (RX4, TX4, 3) rfl (by decide +kernel) (List.mem_of_getElem? (i := 133) rfl)
set_option maxRecDepth 100000 in
theorem fl_X4_17 : fl_ok "DialDesk$Lines" 17 4 1 0 = true := fl_mk (RX4, TX4, 3) rfl (by decide +kernel) (List.mem_of_getElem? (i := 131) rfl)
set_option maxRecDepth 100000 in
theorem fl_X4_11 : fl_ok "DialDesk$Lines" 11 4 0 2 = true := fl_mk (RX4, TX4, 3) rfl (by decide +kernel) (List.mem_of_getElem? (i := 130) rfl)
theorem nw_3 : ∀ j, j < nf_ 3 → defaultValue ((parseFieldDescriptor (((RX3, TX3, 6) : vw_C).2.1 j).2.2.1).getD .int) = if kd_ 3 j = 0 then .int 0 else if kd_ 3 j = 1 then .long 0 else .null := by decide +kernel
theorem it_3 : decide (Cond.instantiable "DialDesk$Line" 6 ∈ lw_tbl) = true := by decide +kernel
theorem iz_3 : decide (Cond.initialized "DialDesk$Line" ∈ lw_tbl) = true := by decide +kernel
set_option maxRecDepth 100000 in
theorem mb_X3_init : mb_ok mX3_init 3 = true := mb_mk (List.mem_of_getElem? (i := 531) rfl) (List.mem_of_getElem? (i := 63) rfl) (by decide +kernel)
set_option maxRecDepth 100000 in
theorem ml_X4_24 : decide (Cond.methodLink "DialDesk$Lines" 24 yX3_init ∈ lw_tbl) = true := decide_eq_true (List.mem_of_getElem? (i := 529) rfl)
set_option maxRecDepth 100000 in
theorem im_X3_init : decide (Cond.instanceMethod yX3_init ∈ lw_tbl) = true := decide_eq_true (List.mem_of_getElem? (i := 530) rfl)
set_option maxRecDepth 100000 in
theorem oi_X7_1 : decide (Cond.methodLink "DialDesk$Porting" 1 objectInit ∈ lw_tbl) = true := decide_eq_true (List.mem_of_getElem? (i := 580) rfl)
set_option maxRecDepth 100000 in
theorem fq_X7_7 : fq_ok "DialDesk$Porting" 7 7 0 .int true = true := fq_mk (RX7, TX7, 3) rfl (by decide +kernel) (List.mem_of_getElem? (i := 581) rfl)
set_option maxRecDepth 100000 in
theorem fq_X7_13 : fq_ok "DialDesk$Porting" 13 7 1 .int true = true := fq_mk (RX7, TX7, 3) rfl (by decide +kernel) (List.mem_of_getElem? (i := 583) rfl)
set_option maxRecDepth 100000 in
theorem fq_X7_16 : fq_ok "DialDesk$Porting" 16 7 2 (.object "DialDesk$Porting") true = true := fq_mk (RX7, TX7, 3) rfl (by decide +kernel) (List.mem_of_getElem? (i := 585) rfl)
set_option maxRecDepth 100000 in
theorem fl_X4_21 : fl_ok "DialDesk$Lines" 21 4 2 0 = true := fl_mk (RX4, TX4, 3) rfl (by decide +kernel) (List.mem_of_getElem? (i := 133) rfl)
set_option maxRecDepth 100000 in
theorem mb_X3_carrierOn : mb_ok mX3_carrierOn 1 = true := mb_mk (List.mem_of_getElem? (i := 574) rfl) (List.mem_of_getElem? (i := 63) rfl) (by decide +kernel)
set_option maxRecDepth 100000 in
theorem ml_X4_27 : decide (Cond.methodLink "DialDesk$Lines" 27 yX3_carrierOn ∈ lw_tbl) = true := decide_eq_true (List.mem_of_getElem? (i := 571) rfl)
set_option maxRecDepth 100000 in
theorem im_X3_carrierOn : decide (Cond.instanceMethod yX3_carrierOn ∈ lw_tbl) = true := decide_eq_true (List.mem_of_getElem? (i := 572) rfl)
set_option maxRecDepth 100000 in
theorem se_X3_carrierOn : decide (Cond.selects "DialDesk$Line" yX3_carrierOn yX3_carrierOn ∈ lw_tbl) = true := decide_eq_true (List.mem_of_getElem? (i := 573) rfl)
theorem nw_7 : ∀ j, j < nf_ 7 → defaultValue ((parseFieldDescriptor (((RX7, TX7, 3) : vw_C).2.1 j).2.2.1).getD .int) = if kd_ 7 j = 0 then .int 0 else if kd_ 7 j = 1 then .long 0 else .null := by decide +kernel
theorem it_7 : decide (Cond.instantiable "DialDesk$Porting" 3 ∈ lw_tbl) = true := by decide +kernel
theorem iz_7 : decide (Cond.initialized "DialDesk$Porting" ∈ lw_tbl) = true := by decide +kernel
set_option maxRecDepth 100000 in
theorem cl_X4_31 : decide (Cond.classLink "DialDesk$Lines" 31 "DialDesk$Porting" ∈ lw_tbl) = true := decide_eq_true (List.mem_of_getElem? (i := 575) rfl)
set_option maxRecDepth 100000 in
theorem fl_X4_33 : fl_ok "DialDesk$Lines" 33 3 5 2 = true := fl_mk (RX3, TX3, 6) rfl (by decide +kernel) (List.mem_of_getElem? (i := 544) rfl)
set_option maxRecDepth 100000 in
theorem mb_X7_init : mb_ok mX7_init 3 = true := mb_mk (List.mem_of_getElem? (i := 579) rfl) (List.mem_of_getElem? (i := 64) rfl) (by decide +kernel)
set_option maxRecDepth 100000 in
theorem ml_X4_37 : decide (Cond.methodLink "DialDesk$Lines" 37 yX7_init ∈ lw_tbl) = true := decide_eq_true (List.mem_of_getElem? (i := 577) rfl)
set_option maxRecDepth 100000 in
theorem im_X7_init : decide (Cond.instanceMethod yX7_init ∈ lw_tbl) = true := decide_eq_true (List.mem_of_getElem? (i := 578) rfl)
set_option maxRecDepth 100000 in
theorem fq_X4_33 : fq_ok "DialDesk$Lines" 33 3 5 (.object "DialDesk$Porting") false = true := fq_mk (RX3, TX3, 6) rfl (by decide +kernel) (List.mem_of_getElem? (i := 544) rfl)
set_option maxRecDepth 100000 in
theorem mb_X4_lineWith : mb_ok mX4_lineWith 1 = true := mb_mk (List.mem_of_getElem? (i := 511) rfl) (List.mem_of_getElem? (i := 55) rfl) (by decide +kernel)
set_option maxRecDepth 100000 in
theorem ml_X4_40 : decide (Cond.methodLink "DialDesk$Lines" 40 yX4_lineWith ∈ lw_tbl) = true := decide_eq_true (List.mem_of_getElem? (i := 508) rfl)
set_option maxRecDepth 100000 in
theorem im_X4_lineWith : decide (Cond.instanceMethod yX4_lineWith ∈ lw_tbl) = true := decide_eq_true (List.mem_of_getElem? (i := 509) rfl)
set_option maxRecDepth 100000 in
theorem se_X4_lineWith : decide (Cond.selects "DialDesk$Lines" yX4_lineWith yX4_lineWith ∈ lw_tbl) = true := decide_eq_true (List.mem_of_getElem? (i := 510) rfl)
set_option maxRecDepth 100000 in
theorem fl_X4_44 : fl_ok "DialDesk$Lines" 44 3 1 0 = true := fl_mk (RX3, TX3, 6) rfl (by decide +kernel) (List.mem_of_getElem? (i := 537) rfl)
set_option maxRecDepth 100000 in
theorem mb_X3_blockOn : mb_ok mX3_blockOn 1 = true := mb_mk (List.mem_of_getElem? (i := 515) rfl) (List.mem_of_getElem? (i := 63) rfl) (by decide +kernel)
set_option maxRecDepth 100000 in
theorem ml_X4_47 : decide (Cond.methodLink "DialDesk$Lines" 47 yX3_blockOn ∈ lw_tbl) = true := decide_eq_true (List.mem_of_getElem? (i := 512) rfl)
set_option maxRecDepth 100000 in
theorem im_X3_blockOn : decide (Cond.instanceMethod yX3_blockOn ∈ lw_tbl) = true := decide_eq_true (List.mem_of_getElem? (i := 513) rfl)
set_option maxRecDepth 100000 in
theorem se_X3_blockOn : decide (Cond.selects "DialDesk$Line" yX3_blockOn yX3_blockOn ∈ lw_tbl) = true := decide_eq_true (List.mem_of_getElem? (i := 514) rfl)
set_option maxRecDepth 100000 in
theorem ml_X10_300 : decide (Cond.methodLink "DialDesk" 300 yX10_tens ∈ lw_tbl) = true := decide_eq_true (List.mem_of_getElem? (i := 697) rfl)
set_option maxRecDepth 100000 in
theorem fl_X4_51 : fl_ok "DialDesk$Lines" 51 2 0 0 = true := fl_mk (RX2, TX2, 18) rfl (by decide +kernel) (List.mem_of_getElem? (i := 282) rfl)
set_option maxRecDepth 100000 in
theorem fl_X4_56 : fl_ok "DialDesk$Lines" 56 2 15 2 = true := fl_mk (RX2, TX2, 18) rfl (by decide +kernel) (List.mem_of_getElem? (i := 324) rfl)
set_option maxRecDepth 100000 in
theorem fl_X4_60 : fl_ok "DialDesk$Lines" 60 2 3 0 = true := fl_mk (RX2, TX2, 18) rfl (by decide +kernel) (List.mem_of_getElem? (i := 292) rfl)
set_option maxRecDepth 100000 in
theorem mn_X4_63 : decide (Cond.methodLinkNest "DialDesk$Lines" 63 yX10_figureBit "DialDesk" ∈ lw_tbl) = true := decide_eq_true (List.mem_of_getElem? (i := 692) rfl)
set_option maxRecDepth 100000 in
theorem ml_X4_67 : decide (Cond.methodLink "DialDesk$Lines" 67 yX2_followedTo ∈ lw_tbl) = true := decide_eq_true (List.mem_of_getElem? (i := 693) rfl)
set_option maxRecDepth 100000 in
theorem mb_X10_lastOf : mb_ok mX10_lastOf 2 = true := mb_mk (List.mem_of_getElem? (i := 696) rfl) (List.mem_of_getElem? (i := 52) rfl) (by decide +kernel)
set_option maxRecDepth 100000 in
theorem mn_X4_71 : decide (Cond.methodLinkNest "DialDesk$Lines" 71 yX10_lastOf "DialDesk" ∈ lw_tbl) = true := decide_eq_true (List.mem_of_getElem? (i := 694) rfl)
set_option maxRecDepth 100000 in
theorem sc_X10_lastOf : decide (Cond.static yX10_lastOf ∈ lw_tbl) = true := decide_eq_true (List.mem_of_getElem? (i := 695) rfl)
set_option maxRecDepth 100000 in
theorem mb_X4_findOn : mb_ok mX4_findOn 3 = true := mb_mk (List.mem_of_getElem? (i := 507) rfl) (List.mem_of_getElem? (i := 55) rfl) (by decide +kernel)
set_option maxRecDepth 100000 in
theorem ml_X4_75 : decide (Cond.methodLink "DialDesk$Lines" 75 yX4_findOn ∈ lw_tbl) = true := decide_eq_true (List.mem_of_getElem? (i := 698) rfl)
set_option maxRecDepth 100000 in
theorem im_X4_findOn : decide (Cond.instanceMethod yX4_findOn ∈ lw_tbl) = true := decide_eq_true (List.mem_of_getElem? (i := 505) rfl)
set_option maxRecDepth 100000 in
theorem se_X4_findOn : decide (Cond.selects "DialDesk$Lines" yX4_findOn yX4_findOn ∈ lw_tbl) = true := decide_eq_true (List.mem_of_getElem? (i := 506) rfl)
set_option maxRecDepth 100000 in
theorem oi_X5_1 : decide (Cond.methodLink "DialDesk$Option" 1 objectInit ∈ lw_tbl) = true := decide_eq_true (List.mem_of_getElem? (i := 779) rfl)
set_option maxRecDepth 100000 in
theorem fq_X5_7 : fq_ok "DialDesk$Option" 7 5 0 (.object "DialDesk$Entry") true = true := fq_mk (RX5, TX5, 2) rfl (by decide +kernel) (List.mem_of_getElem? (i := 780) rfl)
set_option maxRecDepth 100000 in
theorem fq_X5_13 : fq_ok "DialDesk$Option" 13 5 1 .int true = true := fq_mk (RX5, TX5, 2) rfl (by decide +kernel) (List.mem_of_getElem? (i := 783) rfl)
set_option maxRecDepth 100000 in
theorem oi_X8_3 : decide (Cond.methodLink "DialDesk$Reading" 3 objectInit ∈ lw_tbl) = true := decide_eq_true (List.mem_of_getElem? (i := 88) rfl)
set_option maxRecDepth 100000 in
theorem oi_X6_3 : decide (Cond.methodLink "DialDesk$Plan" 3 objectInit ∈ lw_tbl) = true := decide_eq_true (List.mem_of_getElem? (i := 80) rfl)
theorem ao_25 : decide (Cond.arrayOver (.object "DialDesk$Entry") ∈ lw_tbl) = true := by decide +kernel
set_option maxRecDepth 100000 in
theorem cl_X6_9 : decide (Cond.classLink "DialDesk$Plan" 9 "DialDesk$Entry" ∈ lw_tbl) = true := decide_eq_true (List.mem_of_getElem? (i := 81) rfl)
set_option maxRecDepth 100000 in
theorem fq_X6_11 : fq_ok "DialDesk$Plan" 11 6 0 (.array (.object "DialDesk$Entry")) true = true := fq_mk (RX6, TX6, 5) rfl (by decide +kernel) (List.mem_of_getElem? (i := 105) rfl)
set_option maxRecDepth 100000 in
theorem fq_X6_17 : fq_ok "DialDesk$Plan" 17 6 1 .int false = true := fq_mk (RX6, TX6, 5) rfl (by decide +kernel) (List.mem_of_getElem? (i := 106) rfl)
theorem nw_8 : ∀ j, j < nf_ 8 → defaultValue ((parseFieldDescriptor (((RX8, TX8, 4) : vw_C).2.1 j).2.2.1).getD .int) = if kd_ 8 j = 0 then .int 0 else if kd_ 8 j = 1 then .long 0 else .null := by decide +kernel
theorem it_8 : decide (Cond.instantiable "DialDesk$Reading" 4 ∈ lw_tbl) = true := by decide +kernel
theorem iz_8 : decide (Cond.initialized "DialDesk$Reading" ∈ lw_tbl) = true := by decide +kernel
set_option maxRecDepth 100000 in
theorem cl_X6_21 : decide (Cond.classLink "DialDesk$Plan" 21 "DialDesk$Reading" ∈ lw_tbl) = true := decide_eq_true (List.mem_of_getElem? (i := 83) rfl)
set_option maxRecDepth 100000 in
theorem mb_X8_init : mb_ok mX8_init 0 = true := mb_mk (List.mem_of_getElem? (i := 87) rfl) (List.mem_of_getElem? (i := 54) rfl) (by decide +kernel)
set_option maxRecDepth 100000 in
theorem mn_X6_23 : decide (Cond.methodLinkNest "DialDesk$Plan" 23 yX8_init "DialDesk" ∈ lw_tbl) = true := decide_eq_true (List.mem_of_getElem? (i := 85) rfl)
set_option maxRecDepth 100000 in
theorem im_X8_init : decide (Cond.instanceMethod yX8_init ∈ lw_tbl) = true := decide_eq_true (List.mem_of_getElem? (i := 86) rfl)
set_option maxRecDepth 100000 in
theorem fq_X6_24 : fq_ok "DialDesk$Plan" 24 6 4 (.object "DialDesk$Reading") true = true := fq_mk (RX6, TX6, 5) rfl (by decide +kernel) (List.mem_of_getElem? (i := 110) rfl)
set_option maxRecDepth 100000 in
theorem fl_X6_17 : fl_ok "DialDesk$Plan" 17 6 1 0 = true := fl_mk (RX6, TX6, 5) rfl (by decide +kernel) (List.mem_of_getElem? (i := 106) rfl)
set_option maxRecDepth 100000 in
theorem fl_X6_11 : fl_ok "DialDesk$Plan" 11 6 0 2 = true := fl_mk (RX6, TX6, 5) rfl (by decide +kernel) (List.mem_of_getElem? (i := 105) rfl)
set_option maxRecDepth 100000 in
theorem mb_X6_entryAt : mb_ok mX6_entryAt 1 = true := mb_mk (List.mem_of_getElem? (i := 378) rfl) (List.mem_of_getElem? (i := 53) rfl) (by decide +kernel)
set_option maxRecDepth 100000 in
theorem ml_X6_28 : decide (Cond.methodLink "DialDesk$Plan" 28 yX6_entryAt ∈ lw_tbl) = true := decide_eq_true (List.mem_of_getElem? (i := 375) rfl)
set_option maxRecDepth 100000 in
theorem im_X6_entryAt : decide (Cond.instanceMethod yX6_entryAt ∈ lw_tbl) = true := decide_eq_true (List.mem_of_getElem? (i := 376) rfl)
set_option maxRecDepth 100000 in
theorem se_X6_entryAt : decide (Cond.selects "DialDesk$Plan" yX6_entryAt yX6_entryAt ∈ lw_tbl) = true := decide_eq_true (List.mem_of_getElem? (i := 377) rfl)
set_option maxRecDepth 100000 in
theorem fl_X6_32 : fl_ok "DialDesk$Plan" 32 2 0 0 = true := fl_mk (RX2, TX2, 18) rfl (by decide +kernel) (List.mem_of_getElem? (i := 281) rfl)
set_option maxRecDepth 100000 in
theorem mb_X6_hasRoomFor : mb_ok mX6_hasRoomFor 1 = true := mb_mk (List.mem_of_getElem? (i := 374) rfl) (List.mem_of_getElem? (i := 53) rfl) (by decide +kernel)
set_option maxRecDepth 100000 in
theorem ml_X6_35 : decide (Cond.methodLink "DialDesk$Plan" 35 yX6_hasRoomFor ∈ lw_tbl) = true := decide_eq_true (List.mem_of_getElem? (i := 371) rfl)
set_option maxRecDepth 100000 in
theorem im_X6_hasRoomFor : decide (Cond.instanceMethod yX6_hasRoomFor ∈ lw_tbl) = true := decide_eq_true (List.mem_of_getElem? (i := 372) rfl)
set_option maxRecDepth 100000 in
theorem se_X6_hasRoomFor : decide (Cond.selects "DialDesk$Plan" yX6_hasRoomFor yX6_hasRoomFor ∈ lw_tbl) = true := decide_eq_true (List.mem_of_getElem? (i := 373) rfl)
set_option maxRecDepth 100000 in
theorem fq_X6_47 : fq_ok "DialDesk$Plan" 47 2 9 .int false = true := fq_mk (RX2, TX2, 18) rfl (by decide +kernel) (List.mem_of_getElem? (i := 310) rfl)
set_option maxRecDepth 100000 in
theorem fl_X6_47 : fl_ok "DialDesk$Plan" 47 2 9 0 = true := fl_mk (RX2, TX2, 18) rfl (by decide +kernel) (List.mem_of_getElem? (i := 310) rfl)
set_option maxRecDepth 100000 in
theorem mb_X2_clashesWith : mb_ok mX2_clashesWith 1 = true := mb_mk (List.mem_of_getElem? (i := 382) rfl) (List.mem_of_getElem? (i := 60) rfl) (by decide +kernel)
set_option maxRecDepth 100000 in
theorem ml_X6_39 : decide (Cond.methodLink "DialDesk$Plan" 39 yX2_clashesWith ∈ lw_tbl) = true := decide_eq_true (List.mem_of_getElem? (i := 379) rfl)
set_option maxRecDepth 100000 in
theorem im_X2_clashesWith : decide (Cond.instanceMethod yX2_clashesWith ∈ lw_tbl) = true := decide_eq_true (List.mem_of_getElem? (i := 380) rfl)
set_option maxRecDepth 100000 in
theorem se_X2_clashesWith : decide (Cond.selects "DialDesk$Entry" yX2_clashesWith yX2_clashesWith ∈ lw_tbl) = true := decide_eq_true (List.mem_of_getElem? (i := 381) rfl)
set_option maxRecDepth 100000 in
theorem mb_X2_noteClash : mb_ok mX2_noteClash 1 = true := mb_mk (List.mem_of_getElem? (i := 390) rfl) (List.mem_of_getElem? (i := 60) rfl) (by decide +kernel)
set_option maxRecDepth 100000 in
theorem ml_X6_43 : decide (Cond.methodLink "DialDesk$Plan" 43 yX2_noteClash ∈ lw_tbl) = true := decide_eq_true (List.mem_of_getElem? (i := 387) rfl)
set_option maxRecDepth 100000 in
theorem im_X2_noteClash : decide (Cond.instanceMethod yX2_noteClash ∈ lw_tbl) = true := decide_eq_true (List.mem_of_getElem? (i := 388) rfl)
set_option maxRecDepth 100000 in
theorem se_X2_noteClash : decide (Cond.selects "DialDesk$Entry" yX2_noteClash yX2_noteClash ∈ lw_tbl) = true := decide_eq_true (List.mem_of_getElem? (i := 389) rfl)
set_option maxRecDepth 100000 in
theorem fq_X6_97 : fq_ok "DialDesk$Plan" 97 2 11 .int false = true := fq_mk (RX2, TX2, 18) rfl (by decide +kernel) (List.mem_of_getElem? (i := 316) rfl)
set_option maxRecDepth 100000 in
theorem fq_X6_75 : fq_ok "DialDesk$Plan" 75 2 10 .int false = true := fq_mk (RX2, TX2, 18) rfl (by decide +kernel) (List.mem_of_getElem? (i := 314) rfl)
set_option maxRecDepth 100000 in
theorem mb_X6_append : mb_ok mX6_append 1 = true := mb_mk (List.mem_of_getElem? (i := 370) rfl) (List.mem_of_getElem? (i := 53) rfl) (by decide +kernel)
set_option maxRecDepth 100000 in
theorem ml_X6_100 : decide (Cond.methodLink "DialDesk$Plan" 100 yX6_append ∈ lw_tbl) = true := decide_eq_true (List.mem_of_getElem? (i := 433) rfl)
set_option maxRecDepth 100000 in
theorem im_X6_append : decide (Cond.instanceMethod yX6_append ∈ lw_tbl) = true := decide_eq_true (List.mem_of_getElem? (i := 368) rfl)
set_option maxRecDepth 100000 in
theorem se_X6_append : decide (Cond.selects "DialDesk$Plan" yX6_append yX6_append ∈ lw_tbl) = true := decide_eq_true (List.mem_of_getElem? (i := 369) rfl)
set_option maxRecDepth 100000 in
theorem fl_X6_50 : fl_ok "DialDesk$Plan" 50 2 4 0 = true := fl_mk (RX2, TX2, 18) rfl (by decide +kernel) (List.mem_of_getElem? (i := 295) rfl)
set_option maxRecDepth 100000 in
theorem fl_X6_53 : fl_ok "DialDesk$Plan" 53 2 7 0 = true := fl_mk (RX2, TX2, 18) rfl (by decide +kernel) (List.mem_of_getElem? (i := 305) rfl)
theorem nw_2 : ∀ j, j < nf_ 2 → defaultValue ((parseFieldDescriptor (((RX2, TX2, 18) : vw_C).2.1 j).2.2.1).getD .int) = if kd_ 2 j = 0 then .int 0 else if kd_ 2 j = 1 then .long 0 else .null := by decide +kernel
theorem it_2 : decide (Cond.instantiable "DialDesk$Entry" 18 ∈ lw_tbl) = true := by decide +kernel
theorem iz_2 : decide (Cond.initialized "DialDesk$Entry" ∈ lw_tbl) = true := by decide +kernel
set_option maxRecDepth 100000 in
theorem fl_X6_56 : fl_ok "DialDesk$Plan" 56 2 1 0 = true := fl_mk (RX2, TX2, 18) rfl (by decide +kernel) (List.mem_of_getElem? (i := 285) rfl)
set_option maxRecDepth 100000 in
theorem fl_X6_59 : fl_ok "DialDesk$Plan" 59 2 2 0 = true := fl_mk (RX2, TX2, 18) rfl (by decide +kernel) (List.mem_of_getElem? (i := 289) rfl)
set_option maxRecDepth 100000 in
theorem fl_X6_62 : fl_ok "DialDesk$Plan" 62 2 5 0 = true := fl_mk (RX2, TX2, 18) rfl (by decide +kernel) (List.mem_of_getElem? (i := 299) rfl)
set_option maxRecDepth 100000 in
theorem fl_X6_65 : fl_ok "DialDesk$Plan" 65 2 6 0 = true := fl_mk (RX2, TX2, 18) rfl (by decide +kernel) (List.mem_of_getElem? (i := 303) rfl)
set_option maxRecDepth 100000 in
theorem mb_X2_init : mb_ok mX2_init 7 = true := mb_mk (List.mem_of_getElem? (i := 270) rfl) (List.mem_of_getElem? (i := 60) rfl) (by decide +kernel)
set_option maxRecDepth 100000 in
theorem ml_X6_68 : decide (Cond.methodLink "DialDesk$Plan" 68 yX2_init ∈ lw_tbl) = true := decide_eq_true (List.mem_of_getElem? (i := 428) rfl)
set_option maxRecDepth 100000 in
theorem im_X2_init : decide (Cond.instanceMethod yX2_init ∈ lw_tbl) = true := decide_eq_true (List.mem_of_getElem? (i := 269) rfl)
set_option maxRecDepth 100000 in
theorem fq_X6_71 : fq_ok "DialDesk$Plan" 71 2 14 (.object "DialDesk$Entry") false = true := fq_mk (RX2, TX2, 18) rfl (by decide +kernel) (List.mem_of_getElem? (i := 322) rfl)
set_option maxRecDepth 100000 in
theorem fl_X6_71 : fl_ok "DialDesk$Plan" 71 2 14 2 = true := fl_mk (RX2, TX2, 18) rfl (by decide +kernel) (List.mem_of_getElem? (i := 322) rfl)
set_option maxRecDepth 100000 in
theorem fl_X6_75 : fl_ok "DialDesk$Plan" 75 2 10 0 = true := fl_mk (RX2, TX2, 18) rfl (by decide +kernel) (List.mem_of_getElem? (i := 314) rfl)
set_option maxRecDepth 100000 in
theorem mb_X6_appendFrom : mb_ok mX6_appendFrom 3 = true := mb_mk (List.mem_of_getElem? (i := 432) rfl) (List.mem_of_getElem? (i := 53) rfl) (by decide +kernel)
set_option maxRecDepth 100000 in
theorem ml_X6_78 : decide (Cond.methodLink "DialDesk$Plan" 78 yX6_appendFrom ∈ lw_tbl) = true := decide_eq_true (List.mem_of_getElem? (i := 429) rfl)
set_option maxRecDepth 100000 in
theorem im_X6_appendFrom : decide (Cond.instanceMethod yX6_appendFrom ∈ lw_tbl) = true := decide_eq_true (List.mem_of_getElem? (i := 431) rfl)
set_option maxRecDepth 100000 in
theorem se_X6_appendFrom : decide (Cond.selects "DialDesk$Plan" yX6_appendFrom yX6_appendFrom ∈ lw_tbl) = true := decide_eq_true (List.mem_of_getElem? (i := 2) rfl)
set_option maxRecDepth 100000 in
theorem fq_X6_91 : fq_ok "DialDesk$Plan" 91 2 13 (.object "DialDesk$Entry") false = true := fq_mk (RX2, TX2, 18) rfl (by decide +kernel) (List.mem_of_getElem? (i := 320) rfl)
set_option maxRecDepth 100000 in
theorem fq_X6_94 : fq_ok "DialDesk$Plan" 94 2 12 .int false = true := fq_mk (RX2, TX2, 18) rfl (by decide +kernel) (List.mem_of_getElem? (i := 318) rfl)
set_option maxRecDepth 100000 in
theorem fq_X6_82 : fq_ok "DialDesk$Plan" 82 2 15 (.object "DialDesk$Entry") false = true := fq_mk (RX2, TX2, 18) rfl (by decide +kernel) (List.mem_of_getElem? (i := 325) rfl)
set_option maxRecDepth 100000 in
theorem ml_X6_85 : decide (Cond.methodLink "DialDesk$Plan" 85 yJ9_min_7cf53 ∈ lw_tbl) = true := decide_eq_true (List.mem_of_getElem? (i := 434) rfl)
set_option maxRecDepth 100000 in
theorem ml_X6_104 : decide (Cond.methodLink "DialDesk$Plan" 104 yX2_isInForce ∈ lw_tbl) = true := decide_eq_true (List.mem_of_getElem? (i := 464) rfl)
set_option maxRecDepth 100000 in
theorem fq_X6_107 : fq_ok "DialDesk$Plan" 107 6 2 .long false = true := fq_mk (RX6, TX6, 5) rfl (by decide +kernel) (List.mem_of_getElem? (i := 108) rfl)
set_option maxRecDepth 100000 in
theorem fq_X6_111 : fq_ok "DialDesk$Plan" 111 6 3 .long false = true := fq_mk (RX6, TX6, 5) rfl (by decide +kernel) (List.mem_of_getElem? (i := 109) rfl)
set_option maxRecDepth 100000 in
theorem fl_X6_111 : fl_ok "DialDesk$Plan" 111 6 3 1 = true := fl_mk (RX6, TX6, 5) rfl (by decide +kernel) (List.mem_of_getElem? (i := 109) rfl)
set_option maxRecDepth 100000 in
theorem fl_X6_107 : fl_ok "DialDesk$Plan" 107 6 2 1 = true := fl_mk (RX6, TX6, 5) rfl (by decide +kernel) (List.mem_of_getElem? (i := 108) rfl)
set_option maxRecDepth 100000 in
theorem kl_J13_314 : decide (Cond.constantLong "java/lang/Long" 314 6148914691236517205 ∈ lw_tbl) = true := decide_eq_true (List.mem_of_getElem? (i := 475) rfl)
set_option maxRecDepth 100000 in
theorem kl_J13_316 : decide (Cond.constantLong "java/lang/Long" 316 3689348814741910323 ∈ lw_tbl) = true := decide_eq_true (List.mem_of_getElem? (i := 476) rfl)
set_option maxRecDepth 100000 in
theorem kl_J13_318 : decide (Cond.constantLong "java/lang/Long" 318 1085102592571150095 ∈ lw_tbl) = true := decide_eq_true (List.mem_of_getElem? (i := 477) rfl)
set_option maxRecDepth 100000 in
theorem fl_X6_114 : fl_ok "DialDesk$Plan" 114 2 16 1 = true := fl_mk (RX2, TX2, 18) rfl (by decide +kernel) (List.mem_of_getElem? (i := 326) rfl)
set_option maxRecDepth 100000 in
theorem mb_J13_bitCount_95d88 : mb_ok mJ13_bitCount_95d88 1 = true := mb_mk (List.mem_of_getElem? (i := 474) rfl) (List.mem_of_getElem? (i := 62) rfl) (by decide +kernel)
set_option maxRecDepth 100000 in
theorem ml_X6_117 : decide (Cond.methodLink "DialDesk$Plan" 117 yJ13_bitCount_95d88 ∈ lw_tbl) = true := decide_eq_true (List.mem_of_getElem? (i := 472) rfl)
set_option maxRecDepth 100000 in
theorem sc_J13_bitCount_95d88 : decide (Cond.static yJ13_bitCount_95d88 ∈ lw_tbl) = true := decide_eq_true (List.mem_of_getElem? (i := 473) rfl)
set_option maxRecDepth 100000 in
theorem fl_X6_123 : fl_ok "DialDesk$Plan" 123 2 17 1 = true := fl_mk (RX2, TX2, 18) rfl (by decide +kernel) (List.mem_of_getElem? (i := 328) rfl)
set_option maxRecDepth 100000 in
theorem mb_X6_noteInForce : mb_ok mX6_noteInForce 1 = true := mb_mk (List.mem_of_getElem? (i := 463) rfl) (List.mem_of_getElem? (i := 53) rfl) (by decide +kernel)
set_option maxRecDepth 100000 in
theorem ml_X6_126 : decide (Cond.methodLink "DialDesk$Plan" 126 yX6_noteInForce ∈ lw_tbl) = true := decide_eq_true (List.mem_of_getElem? (i := 460) rfl)
set_option maxRecDepth 100000 in
theorem im_X6_noteInForce : decide (Cond.instanceMethod yX6_noteInForce ∈ lw_tbl) = true := decide_eq_true (List.mem_of_getElem? (i := 462) rfl)
set_option maxRecDepth 100000 in
theorem se_X6_noteInForce : decide (Cond.selects "DialDesk$Plan" yX6_noteInForce yX6_noteInForce ∈ lw_tbl) = true := decide_eq_true (List.mem_of_getElem? (i := 3) rfl)
set_option maxRecDepth 100000 in
theorem mb_X6_pairsOf : mb_ok mX6_pairsOf 1 = true := mb_mk (List.mem_of_getElem? (i := 471) rfl) (List.mem_of_getElem? (i := 53) rfl) (by decide +kernel)
set_option maxRecDepth 100000 in
theorem ml_X6_129 : decide (Cond.methodLink "DialDesk$Plan" 129 yX6_pairsOf ∈ lw_tbl) = true := decide_eq_true (List.mem_of_getElem? (i := 468) rfl)
set_option maxRecDepth 100000 in
theorem im_X6_pairsOf : decide (Cond.instanceMethod yX6_pairsOf ∈ lw_tbl) = true := decide_eq_true (List.mem_of_getElem? (i := 470) rfl)
set_option maxRecDepth 100000 in
theorem se_X6_pairsOf : decide (Cond.selects "DialDesk$Plan" yX6_pairsOf yX6_pairsOf ∈ lw_tbl) = true := decide_eq_true (List.mem_of_getElem? (i := 4) rfl)
set_option maxRecDepth 100000 in
theorem mb_X2_hasClash : mb_ok mX2_hasClash 1 = true := mb_mk (List.mem_of_getElem? (i := 493) rfl) (List.mem_of_getElem? (i := 60) rfl) (by decide +kernel)
set_option maxRecDepth 100000 in
theorem ml_X6_136 : decide (Cond.methodLink "DialDesk$Plan" 136 yX2_hasClash ∈ lw_tbl) = true := decide_eq_true (List.mem_of_getElem? (i := 490) rfl)
set_option maxRecDepth 100000 in
theorem im_X2_hasClash : decide (Cond.instanceMethod yX2_hasClash ∈ lw_tbl) = true := decide_eq_true (List.mem_of_getElem? (i := 491) rfl)
set_option maxRecDepth 100000 in
theorem se_X2_hasClash : decide (Cond.selects "DialDesk$Entry" yX2_hasClash yX2_hasClash ∈ lw_tbl) = true := decide_eq_true (List.mem_of_getElem? (i := 492) rfl)
set_option maxRecDepth 100000 in
theorem mb_X6_partnerOf : mb_ok mX6_partnerOf 3 = true := mb_mk (List.mem_of_getElem? (i := 489) rfl) (List.mem_of_getElem? (i := 53) rfl) (by decide +kernel)
set_option maxRecDepth 100000 in
theorem ml_X6_132 : decide (Cond.methodLink "DialDesk$Plan" 132 yX6_partnerOf ∈ lw_tbl) = true := decide_eq_true (List.mem_of_getElem? (i := 486) rfl)
set_option maxRecDepth 100000 in
theorem im_X6_partnerOf : decide (Cond.instanceMethod yX6_partnerOf ∈ lw_tbl) = true := decide_eq_true (List.mem_of_getElem? (i := 488) rfl)
set_option maxRecDepth 100000 in
theorem se_X6_partnerOf : decide (Cond.selects "DialDesk$Plan" yX6_partnerOf yX6_partnerOf ∈ lw_tbl) = true := decide_eq_true (List.mem_of_getElem? (i := 5) rfl)
set_option maxRecDepth 100000 in
theorem mb_X2_hasNumber : mb_ok mX2_hasNumber 2 = true := mb_mk (List.mem_of_getElem? (i := 683) rfl) (List.mem_of_getElem? (i := 60) rfl) (by decide +kernel)
set_option maxRecDepth 100000 in
theorem ml_X6_139 : decide (Cond.methodLink "DialDesk$Plan" 139 yX2_hasNumber ∈ lw_tbl) = true := decide_eq_true (List.mem_of_getElem? (i := 680) rfl)
set_option maxRecDepth 100000 in
theorem im_X2_hasNumber : decide (Cond.instanceMethod yX2_hasNumber ∈ lw_tbl) = true := decide_eq_true (List.mem_of_getElem? (i := 681) rfl)
set_option maxRecDepth 100000 in
theorem se_X2_hasNumber : decide (Cond.selects "DialDesk$Entry" yX2_hasNumber yX2_hasNumber ∈ lw_tbl) = true := decide_eq_true (List.mem_of_getElem? (i := 682) rfl)
set_option maxRecDepth 100000 in
theorem mb_X6_rankOf : mb_ok mX6_rankOf 1 = true := mb_mk (List.mem_of_getElem? (i := 687) rfl) (List.mem_of_getElem? (i := 53) rfl) (by decide +kernel)
set_option maxRecDepth 100000 in
theorem ml_X6_143 : decide (Cond.methodLink "DialDesk$Plan" 143 yX6_rankOf ∈ lw_tbl) = true := decide_eq_true (List.mem_of_getElem? (i := 685) rfl)
set_option maxRecDepth 100000 in
theorem sc_X6_rankOf : decide (Cond.static yX6_rankOf ∈ lw_tbl) = true := decide_eq_true (List.mem_of_getElem? (i := 686) rfl)
set_option maxRecDepth 100000 in
theorem fq_X8_9 : fq_ok "DialDesk$Reading" 9 8 0 .boolean false = true := fq_mk (RX8, TX8, 4) rfl (by decide +kernel) (List.mem_of_getElem? (i := 89) rfl)
set_option maxRecDepth 100000 in
theorem fq_X8_15 : fq_ok "DialDesk$Reading" 15 8 1 .int false = true := fq_mk (RX8, TX8, 4) rfl (by decide +kernel) (List.mem_of_getElem? (i := 90) rfl)
set_option maxRecDepth 100000 in
theorem fq_X8_19 : fq_ok "DialDesk$Reading" 19 8 2 .int false = true := fq_mk (RX8, TX8, 4) rfl (by decide +kernel) (List.mem_of_getElem? (i := 92) rfl)
set_option maxRecDepth 100000 in
theorem fq_X8_22 : fq_ok "DialDesk$Reading" 22 8 3 .int false = true := fq_mk (RX8, TX8, 4) rfl (by decide +kernel) (List.mem_of_getElem? (i := 94) rfl)
set_option maxRecDepth 100000 in
theorem fl_X8_9 : fl_ok "DialDesk$Reading" 9 8 0 0 = true := fl_mk (RX8, TX8, 4) rfl (by decide +kernel) (List.mem_of_getElem? (i := 89) rfl)
set_option maxRecDepth 100000 in
theorem fl_X8_25 : fl_ok "DialDesk$Reading" 25 2 5 0 = true := fl_mk (RX2, TX2, 18) rfl (by decide +kernel) (List.mem_of_getElem? (i := 298) rfl)
set_option maxRecDepth 100000 in
theorem fl_X8_30 : fl_ok "DialDesk$Reading" 30 2 6 0 = true := fl_mk (RX2, TX2, 18) rfl (by decide +kernel) (List.mem_of_getElem? (i := 302) rfl)
set_option maxRecDepth 100000 in
theorem mb_J9_max_7cf53 : mb_ok mJ9_max_7cf53 2 = true := mb_mk (List.mem_of_getElem? (i := 657) rfl) (List.mem_of_getElem? (i := 61) rfl) (by decide +kernel)
set_option maxRecDepth 100000 in
theorem ml_X8_33 : decide (Cond.methodLink "DialDesk$Reading" 33 yJ9_max_7cf53 ∈ lw_tbl) = true := decide_eq_true (List.mem_of_getElem? (i := 655) rfl)
set_option maxRecDepth 100000 in
theorem sc_J9_max_7cf53 : decide (Cond.static yJ9_max_7cf53 ∈ lw_tbl) = true := decide_eq_true (List.mem_of_getElem? (i := 656) rfl)
set_option maxRecDepth 100000 in
theorem fl_X8_19 : fl_ok "DialDesk$Reading" 19 8 2 0 = true := fl_mk (RX8, TX8, 4) rfl (by decide +kernel) (List.mem_of_getElem? (i := 92) rfl)
set_option maxRecDepth 100000 in
theorem ml_X8_39 : decide (Cond.methodLink "DialDesk$Reading" 39 yJ9_min_7cf53 ∈ lw_tbl) = true := decide_eq_true (List.mem_of_getElem? (i := 658) rfl)
set_option maxRecDepth 100000 in
theorem fl_X8_22 : fl_ok "DialDesk$Reading" 22 8 3 0 = true := fl_mk (RX8, TX8, 4) rfl (by decide +kernel) (List.mem_of_getElem? (i := 94) rfl)
set_option maxRecDepth 100000 in
theorem fl_X8_15 : fl_ok "DialDesk$Reading" 15 8 1 0 = true := fl_mk (RX8, TX8, 4) rfl (by decide +kernel) (List.mem_of_getElem? (i := 90) rfl)
set_option maxRecDepth 100000 in
theorem ml_X8_42 : decide (Cond.methodLink "DialDesk$Reading" 42 yX2_figuresAt ∈ lw_tbl) = true := decide_eq_true (List.mem_of_getElem? (i := 659) rfl)
set_option maxRecDepth 100000 in
theorem fl_X6_24 : fl_ok "DialDesk$Plan" 24 6 4 2 = true := fl_mk (RX6, TX6, 5) rfl (by decide +kernel) (List.mem_of_getElem? (i := 110) rfl)
set_option maxRecDepth 100000 in
theorem mb_X8_clear : mb_ok mX8_clear 0 = true := mb_mk (List.mem_of_getElem? (i := 644) rfl) (List.mem_of_getElem? (i := 54) rfl) (by decide +kernel)
set_option maxRecDepth 100000 in
theorem ml_X6_147 : decide (Cond.methodLink "DialDesk$Plan" 147 yX8_clear ∈ lw_tbl) = true := decide_eq_true (List.mem_of_getElem? (i := 641) rfl)
set_option maxRecDepth 100000 in
theorem im_X8_clear : decide (Cond.instanceMethod yX8_clear ∈ lw_tbl) = true := decide_eq_true (List.mem_of_getElem? (i := 642) rfl)
set_option maxRecDepth 100000 in
theorem se_X8_clear : decide (Cond.selects "DialDesk$Reading" yX8_clear yX8_clear ∈ lw_tbl) = true := decide_eq_true (List.mem_of_getElem? (i := 643) rfl)
set_option maxRecDepth 100000 in
theorem ml_X6_150 : decide (Cond.methodLink "DialDesk$Plan" 150 yX2_fits ∈ lw_tbl) = true := decide_eq_true (List.mem_of_getElem? (i := 645) rfl)
set_option maxRecDepth 100000 in
theorem mb_X8_add : mb_ok mX8_add 2 = true := mb_mk (List.mem_of_getElem? (i := 654) rfl) (List.mem_of_getElem? (i := 54) rfl) (by decide +kernel)
set_option maxRecDepth 100000 in
theorem ml_X6_153 : decide (Cond.methodLink "DialDesk$Plan" 153 yX8_add ∈ lw_tbl) = true := decide_eq_true (List.mem_of_getElem? (i := 651) rfl)
set_option maxRecDepth 100000 in
theorem im_X8_add : decide (Cond.instanceMethod yX8_add ∈ lw_tbl) = true := decide_eq_true (List.mem_of_getElem? (i := 652) rfl)
set_option maxRecDepth 100000 in
theorem se_X8_add : decide (Cond.selects "DialDesk$Reading" yX8_add yX8_add ∈ lw_tbl) = true := decide_eq_true (List.mem_of_getElem? (i := 653) rfl)
set_option maxRecDepth 100000 in
theorem mb_X6_blockAt : mb_ok mX6_blockAt 1 = true := mb_mk (List.mem_of_getElem? (i := 415) rfl) (List.mem_of_getElem? (i := 53) rfl) (by decide +kernel)
set_option maxRecDepth 100000 in
theorem ml_X6_157 : decide (Cond.methodLink "DialDesk$Plan" 157 yX6_blockAt ∈ lw_tbl) = true := decide_eq_true (List.mem_of_getElem? (i := 726) rfl)
set_option maxRecDepth 100000 in
theorem im_X6_blockAt : decide (Cond.instanceMethod yX6_blockAt ∈ lw_tbl) = true := decide_eq_true (List.mem_of_getElem? (i := 413) rfl)
set_option maxRecDepth 100000 in
theorem se_X6_blockAt : decide (Cond.selects "DialDesk$Plan" yX6_blockAt yX6_blockAt ∈ lw_tbl) = true := decide_eq_true (List.mem_of_getElem? (i := 414) rfl)
set_option maxRecDepth 100000 in
theorem mb_X2_roomOn : mb_ok mX2_roomOn 1 = true := mb_mk (List.mem_of_getElem? (i := 730) rfl) (List.mem_of_getElem? (i := 60) rfl) (by decide +kernel)
set_option maxRecDepth 100000 in
theorem ml_X6_160 : decide (Cond.methodLink "DialDesk$Plan" 160 yX2_roomOn ∈ lw_tbl) = true := decide_eq_true (List.mem_of_getElem? (i := 727) rfl)
set_option maxRecDepth 100000 in
theorem im_X2_roomOn : decide (Cond.instanceMethod yX2_roomOn ∈ lw_tbl) = true := decide_eq_true (List.mem_of_getElem? (i := 728) rfl)
set_option maxRecDepth 100000 in
theorem se_X2_roomOn : decide (Cond.selects "DialDesk$Entry" yX2_roomOn yX2_roomOn ∈ lw_tbl) = true := decide_eq_true (List.mem_of_getElem? (i := 729) rfl)
theorem nzI_7 : ¬ (7 : Int32) = 0 := by decide +kernel
set_option maxRecDepth 100000 in
theorem mb_X10_weekBehind : mb_ok mX10_weekBehind 1 = true := mb_mk (List.mem_of_getElem? (i := 752) rfl) (List.mem_of_getElem? (i := 52) rfl) (by decide +kernel)
set_option maxRecDepth 100000 in
theorem mn_X6_164 : decide (Cond.methodLinkNest "DialDesk$Plan" 164 yX10_weekBehind "DialDesk" ∈ lw_tbl) = true := decide_eq_true (List.mem_of_getElem? (i := 750) rfl)
set_option maxRecDepth 100000 in
theorem sc_X10_weekBehind : decide (Cond.static yX10_weekBehind ∈ lw_tbl) = true := decide_eq_true (List.mem_of_getElem? (i := 751) rfl)
set_option maxRecDepth 100000 in
theorem mb_X6_sooner : mb_ok mX6_sooner 3 = true := mb_mk (List.mem_of_getElem? (i := 755) rfl) (List.mem_of_getElem? (i := 53) rfl) (by decide +kernel)
set_option maxRecDepth 100000 in
theorem ml_X6_167 : decide (Cond.methodLink "DialDesk$Plan" 167 yX6_sooner ∈ lw_tbl) = true := decide_eq_true (List.mem_of_getElem? (i := 753) rfl)
set_option maxRecDepth 100000 in
theorem sc_X6_sooner : decide (Cond.static yX6_sooner ∈ lw_tbl) = true := decide_eq_true (List.mem_of_getElem? (i := 754) rfl)
set_option maxRecDepth 100000 in
theorem oi_X9_3 : decide (Cond.methodLink "DialDesk$Supply" 3 objectInit ∈ lw_tbl) = true := decide_eq_true (List.mem_of_getElem? (i := 178) rfl)
set_option maxRecDepth 100000 in
theorem fq_X9_9 : fq_ok "DialDesk$Supply" 9 9 0 (.object "DialDesk$Plan") true = true := fq_mk (RX9, TX9, 7) rfl (by decide +kernel) (List.mem_of_getElem? (i := 201) rfl)
theorem ao_24 : decide (Cond.arrayOver (.object "DialDesk$Demand") ∈ lw_tbl) = true := by decide +kernel
set_option maxRecDepth 100000 in
theorem cl_X9_15 : decide (Cond.classLink "DialDesk$Supply" 15 "DialDesk$Demand" ∈ lw_tbl) = true := decide_eq_true (List.mem_of_getElem? (i := 179) rfl)
set_option maxRecDepth 100000 in
theorem fq_X9_17 : fq_ok "DialDesk$Supply" 17 9 1 (.array (.object "DialDesk$Demand")) true = true := fq_mk (RX9, TX9, 7) rfl (by decide +kernel) (List.mem_of_getElem? (i := 202) rfl)
set_option maxRecDepth 100000 in
theorem fl_X9_17 : fl_ok "DialDesk$Supply" 17 9 1 2 = true := fl_mk (RX9, TX9, 7) rfl (by decide +kernel) (List.mem_of_getElem? (i := 202) rfl)
theorem nw_1 : ∀ j, j < nf_ 1 → defaultValue ((parseFieldDescriptor (((RX1, TX1, 3) : vw_C).2.1 j).2.2.1).getD .int) = if kd_ 1 j = 0 then .int 0 else if kd_ 1 j = 1 then .long 0 else .null := by decide +kernel
theorem it_1 : decide (Cond.instantiable "DialDesk$Demand" 3 ∈ lw_tbl) = true := by decide +kernel
theorem iz_1 : decide (Cond.initialized "DialDesk$Demand" ∈ lw_tbl) = true := by decide +kernel
set_option maxRecDepth 100000 in
theorem mb_X1_init : mb_ok mX1_init 1 = true := mb_mk (List.mem_of_getElem? (i := 184) rfl) (List.mem_of_getElem? (i := 58) rfl) (by decide +kernel)
set_option maxRecDepth 100000 in
theorem ml_X9_21 : decide (Cond.methodLink "DialDesk$Supply" 21 yX1_init ∈ lw_tbl) = true := decide_eq_true (List.mem_of_getElem? (i := 182) rfl)
set_option maxRecDepth 100000 in
theorem im_X1_init : decide (Cond.instanceMethod yX1_init ∈ lw_tbl) = true := decide_eq_true (List.mem_of_getElem? (i := 183) rfl)
theorem ao_27 : decide (Cond.arrayOver (.object "DialDesk$Option") ∈ lw_tbl) = true := by decide +kernel
set_option maxRecDepth 100000 in
theorem cl_X9_24 : decide (Cond.classLink "DialDesk$Supply" 24 "DialDesk$Option" ∈ lw_tbl) = true := decide_eq_true (List.mem_of_getElem? (i := 199) rfl)
set_option maxRecDepth 100000 in
theorem fq_X9_26 : fq_ok "DialDesk$Supply" 26 9 2 (.array (.object "DialDesk$Option")) true = true := fq_mk (RX9, TX9, 7) rfl (by decide +kernel) (List.mem_of_getElem? (i := 203) rfl)
set_option maxRecDepth 100000 in
theorem fq_X9_30 : fq_ok "DialDesk$Supply" 30 9 4 (.array .int) true = true := fq_mk (RX9, TX9, 7) rfl (by decide +kernel) (List.mem_of_getElem? (i := 206) rfl)
theorem ac_long : decide (Cond.arrayClass (newarray.typeOf .long) ∈ lw_tbl) = true := by decide +kernel
set_option maxRecDepth 100000 in
theorem fq_X9_34 : fq_ok "DialDesk$Supply" 34 9 5 (.array .long) true = true := fq_mk (RX9, TX9, 7) rfl (by decide +kernel) (List.mem_of_getElem? (i := 207) rfl)
set_option maxRecDepth 100000 in
theorem fl_X9_38 : fl_ok "DialDesk$Supply" 38 9 3 0 = true := fl_mk (RX9, TX9, 7) rfl (by decide +kernel) (List.mem_of_getElem? (i := 204) rfl)
set_option maxRecDepth 100000 in
theorem fl_X9_26 : fl_ok "DialDesk$Supply" 26 9 2 2 = true := fl_mk (RX9, TX9, 7) rfl (by decide +kernel) (List.mem_of_getElem? (i := 203) rfl)
set_option maxRecDepth 100000 in
theorem fq_X9_38 : fq_ok "DialDesk$Supply" 38 9 3 .int false = true := fq_mk (RX9, TX9, 7) rfl (by decide +kernel) (List.mem_of_getElem? (i := 204) rfl)
set_option maxRecDepth 100000 in
theorem fl_X9_9 : fl_ok "DialDesk$Supply" 9 9 0 2 = true := fl_mk (RX9, TX9, 7) rfl (by decide +kernel) (List.mem_of_getElem? (i := 201) rfl)
set_option maxRecDepth 100000 in
theorem fl_X9_42 : fl_ok "DialDesk$Supply" 42 1 0 0 = true := fl_mk (RX1, TX1, 3) rfl (by decide +kernel) (List.mem_of_getElem? (i := 187) rfl)
set_option maxRecDepth 100000 in
theorem mb_X6_nextTurn : mb_ok mX6_nextTurn 2 = true := mb_mk (List.mem_of_getElem? (i := 749) rfl) (List.mem_of_getElem? (i := 53) rfl) (by decide +kernel)
set_option maxRecDepth 100000 in
theorem ml_X9_45 : decide (Cond.methodLink "DialDesk$Supply" 45 yX6_nextTurn ∈ lw_tbl) = true := decide_eq_true (List.mem_of_getElem? (i := 746) rfl)
set_option maxRecDepth 100000 in
theorem im_X6_nextTurn : decide (Cond.instanceMethod yX6_nextTurn ∈ lw_tbl) = true := decide_eq_true (List.mem_of_getElem? (i := 747) rfl)
set_option maxRecDepth 100000 in
theorem se_X6_nextTurn : decide (Cond.selects "DialDesk$Plan" yX6_nextTurn yX6_nextTurn ∈ lw_tbl) = true := decide_eq_true (List.mem_of_getElem? (i := 748) rfl)
set_option maxRecDepth 100000 in
theorem mb_X6_roomOf : mb_ok mX6_roomOf 2 = true := mb_mk (List.mem_of_getElem? (i := 725) rfl) (List.mem_of_getElem? (i := 53) rfl) (by decide +kernel)
set_option maxRecDepth 100000 in
theorem ml_X9_51 : decide (Cond.methodLink "DialDesk$Supply" 51 yX6_roomOf ∈ lw_tbl) = true := decide_eq_true (List.mem_of_getElem? (i := 756) rfl)
set_option maxRecDepth 100000 in
theorem im_X6_roomOf : decide (Cond.instanceMethod yX6_roomOf ∈ lw_tbl) = true := decide_eq_true (List.mem_of_getElem? (i := 723) rfl)
set_option maxRecDepth 100000 in
theorem se_X6_roomOf : decide (Cond.selects "DialDesk$Plan" yX6_roomOf yX6_roomOf ∈ lw_tbl) = true := decide_eq_true (List.mem_of_getElem? (i := 724) rfl)
set_option maxRecDepth 100000 in
theorem mb_X1_firstAbove : mb_ok mX1_firstAbove 2 = true := mb_mk (List.mem_of_getElem? (i := 760) rfl) (List.mem_of_getElem? (i := 58) rfl) (by decide +kernel)
set_option maxRecDepth 100000 in
theorem ml_X9_55 : decide (Cond.methodLink "DialDesk$Supply" 55 yX1_firstAbove ∈ lw_tbl) = true := decide_eq_true (List.mem_of_getElem? (i := 757) rfl)
set_option maxRecDepth 100000 in
theorem im_X1_firstAbove : decide (Cond.instanceMethod yX1_firstAbove ∈ lw_tbl) = true := decide_eq_true (List.mem_of_getElem? (i := 758) rfl)
set_option maxRecDepth 100000 in
theorem se_X1_firstAbove : decide (Cond.selects "DialDesk$Demand" yX1_firstAbove yX1_firstAbove ∈ lw_tbl) = true := decide_eq_true (List.mem_of_getElem? (i := 759) rfl)
set_option maxRecDepth 100000 in
theorem ml_X9_59 : decide (Cond.methodLink "DialDesk$Supply" 59 yJ9_max_7cf53 ∈ lw_tbl) = true := decide_eq_true (List.mem_of_getElem? (i := 769) rfl)
set_option maxRecDepth 100000 in
theorem mb_X9_optionAt : mb_ok mX9_optionAt 1 = true := mb_mk (List.mem_of_getElem? (i := 815) rfl) (List.mem_of_getElem? (i := 57) rfl) (by decide +kernel)
set_option maxRecDepth 100000 in
theorem ml_X9_107 : decide (Cond.methodLink "DialDesk$Supply" 107 yX9_optionAt ∈ lw_tbl) = true := decide_eq_true (List.mem_of_getElem? (i := 812) rfl)
set_option maxRecDepth 100000 in
theorem im_X9_optionAt : decide (Cond.instanceMethod yX9_optionAt ∈ lw_tbl) = true := decide_eq_true (List.mem_of_getElem? (i := 813) rfl)
set_option maxRecDepth 100000 in
theorem se_X9_optionAt : decide (Cond.selects "DialDesk$Supply" yX9_optionAt yX9_optionAt ∈ lw_tbl) = true := decide_eq_true (List.mem_of_getElem? (i := 814) rfl)
set_option maxRecDepth 100000 in
theorem fl_X9_111 : fl_ok "DialDesk$Supply" 111 5 0 2 = true := fl_mk (RX5, TX5, 2) rfl (by decide +kernel) (List.mem_of_getElem? (i := 781) rfl)
set_option maxRecDepth 100000 in
theorem fl_X9_115 : fl_ok "DialDesk$Supply" 115 2 7 0 = true := fl_mk (RX2, TX2, 18) rfl (by decide +kernel) (List.mem_of_getElem? (i := 306) rfl)
set_option maxRecDepth 100000 in
theorem mn_X9_120 : decide (Cond.methodLinkNest "DialDesk$Supply" 120 yX10_weekBehind "DialDesk" ∈ lw_tbl) = true := decide_eq_true (List.mem_of_getElem? (i := 816) rfl)
set_option maxRecDepth 100000 in
theorem ml_X9_123 : decide (Cond.methodLink "DialDesk$Supply" 123 yX6_sooner ∈ lw_tbl) = true := decide_eq_true (List.mem_of_getElem? (i := 817) rfl)
set_option maxRecDepth 100000 in
theorem fq_X9_97 : fq_ok "DialDesk$Supply" 97 9 6 .int false = true := fq_mk (RX9, TX9, 7) rfl (by decide +kernel) (List.mem_of_getElem? (i := 208) rfl)
set_option maxRecDepth 100000 in
theorem mb_X9_nextTurnWithOptions : mb_ok mX9_nextTurnWithOptions 2 = true := mb_mk (List.mem_of_getElem? (i := 811) rfl) (List.mem_of_getElem? (i := 57) rfl) (by decide +kernel)
set_option maxRecDepth 100000 in
theorem ml_X9_100 : decide (Cond.methodLink "DialDesk$Supply" 100 yX9_nextTurnWithOptions ∈ lw_tbl) = true := decide_eq_true (List.mem_of_getElem? (i := 808) rfl)
set_option maxRecDepth 100000 in
theorem im_X9_nextTurnWithOptions : decide (Cond.instanceMethod yX9_nextTurnWithOptions ∈ lw_tbl) = true := decide_eq_true (List.mem_of_getElem? (i := 810) rfl)
set_option maxRecDepth 100000 in
theorem se_X9_nextTurnWithOptions : decide (Cond.selects "DialDesk$Supply" yX9_nextTurnWithOptions yX9_nextTurnWithOptions ∈ lw_tbl) = true := decide_eq_true (List.mem_of_getElem? (i := 11) rfl)
set_option maxRecDepth 100000 in
theorem ml_X9_68 : decide (Cond.methodLink "DialDesk$Supply" 68 yJ9_min_7cf53 ∈ lw_tbl) = true := decide_eq_true (List.mem_of_getElem? (i := 803) rfl)
set_option maxRecDepth 100000 in
theorem ml_X9_103 : decide (Cond.methodLink "DialDesk$Supply" 103 yX1_askedIn ∈ lw_tbl) = true := decide_eq_true (List.mem_of_getElem? (i := 818) rfl)
set_option maxRecDepth 100000 in
theorem fl_X9_97 : fl_ok "DialDesk$Supply" 97 9 6 0 = true := fl_mk (RX9, TX9, 7) rfl (by decide +kernel) (List.mem_of_getElem? (i := 208) rfl)
set_option maxRecDepth 100000 in
theorem fl_X9_34 : fl_ok "DialDesk$Supply" 34 9 5 2 = true := fl_mk (RX9, TX9, 7) rfl (by decide +kernel) (List.mem_of_getElem? (i := 207) rfl)
set_option maxRecDepth 100000 in
theorem fl_X9_30 : fl_ok "DialDesk$Supply" 30 9 4 2 = true := fl_mk (RX9, TX9, 7) rfl (by decide +kernel) (List.mem_of_getElem? (i := 206) rfl)
set_option maxRecDepth 100000 in
theorem fl_X9_127 : fl_ok "DialDesk$Supply" 127 2 1 0 = true := fl_mk (RX2, TX2, 18) rfl (by decide +kernel) (List.mem_of_getElem? (i := 287) rfl)
set_option maxRecDepth 100000 in
theorem mb_X6_clashesOn : mb_ok mX6_clashesOn 2 = true := mb_mk (List.mem_of_getElem? (i := 826) rfl) (List.mem_of_getElem? (i := 53) rfl) (by decide +kernel)
set_option maxRecDepth 100000 in
theorem ml_X9_130 : decide (Cond.methodLink "DialDesk$Supply" 130 yX6_clashesOn ∈ lw_tbl) = true := decide_eq_true (List.mem_of_getElem? (i := 823) rfl)
set_option maxRecDepth 100000 in
theorem im_X6_clashesOn : decide (Cond.instanceMethod yX6_clashesOn ∈ lw_tbl) = true := decide_eq_true (List.mem_of_getElem? (i := 824) rfl)
set_option maxRecDepth 100000 in
theorem se_X6_clashesOn : decide (Cond.selects "DialDesk$Plan" yX6_clashesOn yX6_clashesOn ∈ lw_tbl) = true := decide_eq_true (List.mem_of_getElem? (i := 825) rfl)
set_option maxRecDepth 100000 in
theorem fl_X9_134 : fl_ok "DialDesk$Supply" 134 5 1 0 = true := fl_mk (RX5, TX5, 2) rfl (by decide +kernel) (List.mem_of_getElem? (i := 784) rfl)
set_option maxRecDepth 100000 in
theorem ml_X9_144 : decide (Cond.methodLink "DialDesk$Supply" 144 yX2_roomOn ∈ lw_tbl) = true := decide_eq_true (List.mem_of_getElem? (i := 841) rfl)
set_option maxRecDepth 100000 in
theorem mb_X9_roomBy : mb_ok mX9_roomBy 2 = true := mb_mk (List.mem_of_getElem? (i := 840) rfl) (List.mem_of_getElem? (i := 57) rfl) (by decide +kernel)
set_option maxRecDepth 100000 in
theorem ml_X9_141 : decide (Cond.methodLink "DialDesk$Supply" 141 yX9_roomBy ∈ lw_tbl) = true := decide_eq_true (List.mem_of_getElem? (i := 837) rfl)
set_option maxRecDepth 100000 in
theorem im_X9_roomBy : decide (Cond.instanceMethod yX9_roomBy ∈ lw_tbl) = true := decide_eq_true (List.mem_of_getElem? (i := 839) rfl)
set_option maxRecDepth 100000 in
theorem se_X9_roomBy : decide (Cond.selects "DialDesk$Supply" yX9_roomBy yX9_roomBy ∈ lw_tbl) = true := decide_eq_true (List.mem_of_getElem? (i := 15) rfl)
set_option maxRecDepth 100000 in
theorem ml_X9_137 : decide (Cond.methodLink "DialDesk$Supply" 137 yX2_clashesWith ∈ lw_tbl) = true := decide_eq_true (List.mem_of_getElem? (i := 846) rfl)
set_option maxRecDepth 100000 in
theorem mb_X9_firstShort : mb_ok mX9_firstShort 2 = true := mb_mk (List.mem_of_getElem? (i := 745) rfl) (List.mem_of_getElem? (i := 57) rfl) (by decide +kernel)
set_option maxRecDepth 100000 in
theorem ml_X9_64 : decide (Cond.methodLink "DialDesk$Supply" 64 yX9_firstShort ∈ lw_tbl) = true := decide_eq_true (List.mem_of_getElem? (i := 802) rfl)
set_option maxRecDepth 100000 in
theorem im_X9_firstShort : decide (Cond.instanceMethod yX9_firstShort ∈ lw_tbl) = true := decide_eq_true (List.mem_of_getElem? (i := 743) rfl)
set_option maxRecDepth 100000 in
theorem se_X9_firstShort : decide (Cond.selects "DialDesk$Supply" yX9_firstShort yX9_firstShort ∈ lw_tbl) = true := decide_eq_true (List.mem_of_getElem? (i := 744) rfl)
set_option maxRecDepth 100000 in
theorem mb_X9_noteLacks : mb_ok mX9_noteLacks 3 = true := mb_mk (List.mem_of_getElem? (i := 807) rfl) (List.mem_of_getElem? (i := 57) rfl) (by decide +kernel)
set_option maxRecDepth 100000 in
theorem ml_X9_71 : decide (Cond.methodLink "DialDesk$Supply" 71 yX9_noteLacks ∈ lw_tbl) = true := decide_eq_true (List.mem_of_getElem? (i := 804) rfl)
set_option maxRecDepth 100000 in
theorem im_X9_noteLacks : decide (Cond.instanceMethod yX9_noteLacks ∈ lw_tbl) = true := decide_eq_true (List.mem_of_getElem? (i := 806) rfl)
set_option maxRecDepth 100000 in
theorem se_X9_noteLacks : decide (Cond.selects "DialDesk$Supply" yX9_noteLacks yX9_noteLacks ∈ lw_tbl) = true := decide_eq_true (List.mem_of_getElem? (i := 10) rfl)
set_option maxRecDepth 100000 in
theorem mb_X9_usableFor : mb_ok mX9_usableFor 2 = true := mb_mk (List.mem_of_getElem? (i := 822) rfl) (List.mem_of_getElem? (i := 57) rfl) (by decide +kernel)
set_option maxRecDepth 100000 in
theorem ml_X9_75 : decide (Cond.methodLink "DialDesk$Supply" 75 yX9_usableFor ∈ lw_tbl) = true := decide_eq_true (List.mem_of_getElem? (i := 819) rfl)
set_option maxRecDepth 100000 in
theorem im_X9_usableFor : decide (Cond.instanceMethod yX9_usableFor ∈ lw_tbl) = true := decide_eq_true (List.mem_of_getElem? (i := 821) rfl)
set_option maxRecDepth 100000 in
theorem se_X9_usableFor : decide (Cond.selects "DialDesk$Supply" yX9_usableFor yX9_usableFor ∈ lw_tbl) = true := decide_eq_true (List.mem_of_getElem? (i := 12) rfl)
set_option maxRecDepth 100000 in
theorem mb_X9_costOf : mb_ok mX9_costOf 1 = true := mb_mk (List.mem_of_getElem? (i := 830) rfl) (List.mem_of_getElem? (i := 57) rfl) (by decide +kernel)
set_option maxRecDepth 100000 in
theorem ml_X9_78 : decide (Cond.methodLink "DialDesk$Supply" 78 yX9_costOf ∈ lw_tbl) = true := decide_eq_true (List.mem_of_getElem? (i := 827) rfl)
set_option maxRecDepth 100000 in
theorem im_X9_costOf : decide (Cond.instanceMethod yX9_costOf ∈ lw_tbl) = true := decide_eq_true (List.mem_of_getElem? (i := 829) rfl)
set_option maxRecDepth 100000 in
theorem se_X9_costOf : decide (Cond.selects "DialDesk$Supply" yX9_costOf yX9_costOf ∈ lw_tbl) = true := decide_eq_true (List.mem_of_getElem? (i := 13) rfl)
set_option maxRecDepth 100000 in
theorem ml_X9_82 : decide (Cond.methodLink "DialDesk$Supply" 82 yJ6_bitCount_0f7a4 ∈ lw_tbl) = true := decide_eq_true (List.mem_of_getElem? (i := 831) rfl)
set_option maxRecDepth 100000 in
theorem ml_X9_87 : decide (Cond.methodLink "DialDesk$Supply" 87 yX6_hasRoomFor ∈ lw_tbl) = true := decide_eq_true (List.mem_of_getElem? (i := 832) rfl)
set_option maxRecDepth 100000 in
theorem mb_X9_coversLacks : mb_ok mX9_coversLacks 1 = true := mb_mk (List.mem_of_getElem? (i := 836) rfl) (List.mem_of_getElem? (i := 57) rfl) (by decide +kernel)
set_option maxRecDepth 100000 in
theorem ml_X9_91 : decide (Cond.methodLink "DialDesk$Supply" 91 yX9_coversLacks ∈ lw_tbl) = true := decide_eq_true (List.mem_of_getElem? (i := 833) rfl)
set_option maxRecDepth 100000 in
theorem im_X9_coversLacks : decide (Cond.instanceMethod yX9_coversLacks ∈ lw_tbl) = true := decide_eq_true (List.mem_of_getElem? (i := 835) rfl)
set_option maxRecDepth 100000 in
theorem se_X9_coversLacks : decide (Cond.selects "DialDesk$Supply" yX9_coversLacks yX9_coversLacks ∈ lw_tbl) = true := decide_eq_true (List.mem_of_getElem? (i := 14) rfl)
set_option maxRecDepth 100000 in
theorem mb_X9_isWithoutPair : mb_ok mX9_isWithoutPair 1 = true := mb_mk (List.mem_of_getElem? (i := 845) rfl) (List.mem_of_getElem? (i := 57) rfl) (by decide +kernel)
set_option maxRecDepth 100000 in
theorem ml_X9_94 : decide (Cond.methodLink "DialDesk$Supply" 94 yX9_isWithoutPair ∈ lw_tbl) = true := decide_eq_true (List.mem_of_getElem? (i := 842) rfl)
set_option maxRecDepth 100000 in
theorem im_X9_isWithoutPair : decide (Cond.instanceMethod yX9_isWithoutPair ∈ lw_tbl) = true := decide_eq_true (List.mem_of_getElem? (i := 844) rfl)
set_option maxRecDepth 100000 in
theorem se_X9_isWithoutPair : decide (Cond.selects "DialDesk$Supply" yX9_isWithoutPair yX9_isWithoutPair ∈ lw_tbl) = true := decide_eq_true (List.mem_of_getElem? (i := 16) rfl)
set_option maxRecDepth 100000 in
theorem oi_X10_1 : decide (Cond.methodLink "DialDesk" 1 objectInit ∈ lw_tbl) = true := decide_eq_true (List.mem_of_getElem? (i := 72) rfl)
theorem nw_6 : ∀ j, j < nf_ 6 → defaultValue ((parseFieldDescriptor (((RX6, TX6, 5) : vw_C).2.1 j).2.2.1).getD .int) = if kd_ 6 j = 0 then .int 0 else if kd_ 6 j = 1 then .long 0 else .null := by decide +kernel
theorem it_6 : decide (Cond.instantiable "DialDesk$Plan" 5 ∈ lw_tbl) = true := by decide +kernel
theorem iz_6 : decide (Cond.initialized "DialDesk$Plan" ∈ lw_tbl) = true := by decide +kernel
set_option maxRecDepth 100000 in
theorem cl_X10_7 : decide (Cond.classLink "DialDesk" 7 "DialDesk$Plan" ∈ lw_tbl) = true := decide_eq_true (List.mem_of_getElem? (i := 75) rfl)
set_option maxRecDepth 100000 in
theorem mb_X6_init : mb_ok mX6_init 0 = true := mb_mk (List.mem_of_getElem? (i := 79) rfl) (List.mem_of_getElem? (i := 53) rfl) (by decide +kernel)
set_option maxRecDepth 100000 in
theorem ml_X10_9 : decide (Cond.methodLink "DialDesk" 9 yX6_init ∈ lw_tbl) = true := decide_eq_true (List.mem_of_getElem? (i := 77) rfl)
set_option maxRecDepth 100000 in
theorem im_X6_init : decide (Cond.instanceMethod yX6_init ∈ lw_tbl) = true := decide_eq_true (List.mem_of_getElem? (i := 78) rfl)
set_option maxRecDepth 100000 in
theorem fq_X10_10 : fq_ok "DialDesk" 10 10 0 (.object "DialDesk$Plan") true = true := fq_mk (RX10, TX10, 5) rfl (by decide +kernel) (List.mem_of_getElem? (i := 226) rfl)
theorem nw_4 : ∀ j, j < nf_ 4 → defaultValue ((parseFieldDescriptor (((RX4, TX4, 3) : vw_C).2.1 j).2.2.1).getD .int) = if kd_ 4 j = 0 then .int 0 else if kd_ 4 j = 1 then .long 0 else .null := by decide +kernel
theorem it_4 : decide (Cond.instantiable "DialDesk$Lines" 3 ∈ lw_tbl) = true := by decide +kernel
theorem iz_4 : decide (Cond.initialized "DialDesk$Lines" ∈ lw_tbl) = true := by decide +kernel
set_option maxRecDepth 100000 in
theorem cl_X10_16 : decide (Cond.classLink "DialDesk" 16 "DialDesk$Lines" ∈ lw_tbl) = true := decide_eq_true (List.mem_of_getElem? (i := 122) rfl)
set_option maxRecDepth 100000 in
theorem mb_X4_init : mb_ok mX4_init 0 = true := mb_mk (List.mem_of_getElem? (i := 126) rfl) (List.mem_of_getElem? (i := 55) rfl) (by decide +kernel)
set_option maxRecDepth 100000 in
theorem ml_X10_18 : decide (Cond.methodLink "DialDesk" 18 yX4_init ∈ lw_tbl) = true := decide_eq_true (List.mem_of_getElem? (i := 124) rfl)
set_option maxRecDepth 100000 in
theorem im_X4_init : decide (Cond.instanceMethod yX4_init ∈ lw_tbl) = true := decide_eq_true (List.mem_of_getElem? (i := 125) rfl)
set_option maxRecDepth 100000 in
theorem fq_X10_19 : fq_ok "DialDesk" 19 10 1 (.object "DialDesk$Lines") true = true := fq_mk (RX10, TX10, 5) rfl (by decide +kernel) (List.mem_of_getElem? (i := 227) rfl)
theorem ao_23 : decide (Cond.arrayOver (.object "DialDesk$Call") ∈ lw_tbl) = true := by decide +kernel
set_option maxRecDepth 100000 in
theorem cl_X10_23 : decide (Cond.classLink "DialDesk" 23 "DialDesk$Call" ∈ lw_tbl) = true := decide_eq_true (List.mem_of_getElem? (i := 141) rfl)
set_option maxRecDepth 100000 in
theorem fq_X10_25 : fq_ok "DialDesk" 25 10 2 (.array (.object "DialDesk$Call")) true = true := fq_mk (RX10, TX10, 5) rfl (by decide +kernel) (List.mem_of_getElem? (i := 228) rfl)
set_option maxRecDepth 100000 in
theorem fl_X10_25 : fl_ok "DialDesk" 25 10 2 2 = true := fl_mk (RX10, TX10, 5) rfl (by decide +kernel) (List.mem_of_getElem? (i := 228) rfl)
theorem nw_0 : ∀ j, j < nf_ 0 → defaultValue ((parseFieldDescriptor (((RX0, TX0, 6) : vw_C).2.1 j).2.2.1).getD .int) = if kd_ 0 j = 0 then .int 0 else if kd_ 0 j = 1 then .long 0 else .null := by decide +kernel
theorem it_0 : decide (Cond.instantiable "DialDesk$Call" 6 ∈ lw_tbl) = true := by decide +kernel
theorem iz_0 : decide (Cond.initialized "DialDesk$Call" ∈ lw_tbl) = true := by decide +kernel
set_option maxRecDepth 100000 in
theorem mb_X0_init : mb_ok mX0_init 0 = true := mb_mk (List.mem_of_getElem? (i := 146) rfl) (List.mem_of_getElem? (i := 56) rfl) (by decide +kernel)
set_option maxRecDepth 100000 in
theorem mn_X10_29 : decide (Cond.methodLinkNest "DialDesk" 29 yX0_init "DialDesk" ∈ lw_tbl) = true := decide_eq_true (List.mem_of_getElem? (i := 144) rfl)
set_option maxRecDepth 100000 in
theorem im_X0_init : decide (Cond.instanceMethod yX0_init ∈ lw_tbl) = true := decide_eq_true (List.mem_of_getElem? (i := 145) rfl)
theorem nw_9 : ∀ j, j < nf_ 9 → defaultValue ((parseFieldDescriptor (((RX9, TX9, 7) : vw_C).2.1 j).2.2.1).getD .int) = if kd_ 9 j = 0 then .int 0 else if kd_ 9 j = 1 then .long 0 else .null := by decide +kernel
theorem it_9 : decide (Cond.instantiable "DialDesk$Supply" 7 ∈ lw_tbl) = true := by decide +kernel
theorem iz_9 : decide (Cond.initialized "DialDesk$Supply" ∈ lw_tbl) = true := by decide +kernel
set_option maxRecDepth 100000 in
theorem cl_X10_30 : decide (Cond.classLink "DialDesk" 30 "DialDesk$Supply" ∈ lw_tbl) = true := decide_eq_true (List.mem_of_getElem? (i := 173) rfl)
set_option maxRecDepth 100000 in
theorem fl_X10_10 : fl_ok "DialDesk" 10 10 0 2 = true := fl_mk (RX10, TX10, 5) rfl (by decide +kernel) (List.mem_of_getElem? (i := 226) rfl)
set_option maxRecDepth 100000 in
theorem mb_X9_init : mb_ok mX9_init 1 = true := mb_mk (List.mem_of_getElem? (i := 177) rfl) (List.mem_of_getElem? (i := 57) rfl) (by decide +kernel)
set_option maxRecDepth 100000 in
theorem ml_X10_32 : decide (Cond.methodLink "DialDesk" 32 yX9_init ∈ lw_tbl) = true := decide_eq_true (List.mem_of_getElem? (i := 175) rfl)
set_option maxRecDepth 100000 in
theorem im_X9_init : decide (Cond.instanceMethod yX9_init ∈ lw_tbl) = true := decide_eq_true (List.mem_of_getElem? (i := 176) rfl)
set_option maxRecDepth 100000 in
theorem fq_X10_35 : fq_ok "DialDesk" 35 10 3 (.object "DialDesk$Supply") true = true := fq_mk (RX10, TX10, 5) rfl (by decide +kernel) (List.mem_of_getElem? (i := 229) rfl)
set_option maxRecDepth 100000 in
theorem fq_X10_39 : fq_ok "DialDesk" 39 10 4 .int false = true := fq_mk (RX10, TX10, 5) rfl (by decide +kernel) (List.mem_of_getElem? (i := 230) rfl)
set_option maxRecDepth 100000 in
theorem fl_X10_39 : fl_ok "DialDesk" 39 10 4 0 = true := fl_mk (RX10, TX10, 5) rfl (by decide +kernel) (List.mem_of_getElem? (i := 230) rfl)
set_option maxRecDepth 100000 in
theorem mb_X10_isWithin : mb_ok mX10_isWithin 3 = true := mb_mk (List.mem_of_getElem? (i := 252) rfl) (List.mem_of_getElem? (i := 52) rfl) (by decide +kernel)
set_option maxRecDepth 100000 in
theorem ml_X10_64 : decide (Cond.methodLink "DialDesk" 64 yX10_isWithin ∈ lw_tbl) = true := decide_eq_true (List.mem_of_getElem? (i := 250) rfl)
set_option maxRecDepth 100000 in
theorem sc_X10_isWithin : decide (Cond.static yX10_isWithin ∈ lw_tbl) = true := decide_eq_true (List.mem_of_getElem? (i := 251) rfl)
set_option maxRecDepth 100000 in
theorem mb_X10_isDayToCome : mb_ok mX10_isDayToCome 1 = true := mb_mk (List.mem_of_getElem? (i := 249) rfl) (List.mem_of_getElem? (i := 52) rfl) (by decide +kernel)
set_option maxRecDepth 100000 in
theorem ml_X10_43 : decide (Cond.methodLink "DialDesk" 43 yX10_isDayToCome ∈ lw_tbl) = true := decide_eq_true (List.mem_of_getElem? (i := 246) rfl)
set_option maxRecDepth 100000 in
theorem im_X10_isDayToCome : decide (Cond.instanceMethod yX10_isDayToCome ∈ lw_tbl) = true := decide_eq_true (List.mem_of_getElem? (i := 248) rfl)
set_option maxRecDepth 100000 in
theorem se_X10_isDayToCome : decide (Cond.selects "DialDesk" yX10_isDayToCome yX10_isDayToCome ∈ lw_tbl) = true := decide_eq_true (List.mem_of_getElem? (i := 0) rfl)
set_option maxRecDepth 100000 in
theorem ml_X10_60 : decide (Cond.methodLink "DialDesk" 60 yX10_placesOf ∈ lw_tbl) = true := decide_eq_true (List.mem_of_getElem? (i := 260) rfl)
set_option maxRecDepth 100000 in
theorem mb_X10_isBlock : mb_ok mX10_isBlock 4 = true := mb_mk (List.mem_of_getElem? (i := 259) rfl) (List.mem_of_getElem? (i := 52) rfl) (by decide +kernel)
set_option maxRecDepth 100000 in
theorem ml_X10_47 : decide (Cond.methodLink "DialDesk" 47 yX10_isBlock ∈ lw_tbl) = true := decide_eq_true (List.mem_of_getElem? (i := 257) rfl)
set_option maxRecDepth 100000 in
theorem sc_X10_isBlock : decide (Cond.static yX10_isBlock ∈ lw_tbl) = true := decide_eq_true (List.mem_of_getElem? (i := 258) rfl)
set_option maxRecDepth 100000 in
theorem cl_X10_51 : decide (Cond.classLink "DialDesk" 51 "DialDesk$Entry" ∈ lw_tbl) = true := decide_eq_true (List.mem_of_getElem? (i := 266) rfl)
set_option maxRecDepth 100000 in
theorem ml_X10_53 : decide (Cond.methodLink "DialDesk" 53 yX2_init ∈ lw_tbl) = true := decide_eq_true (List.mem_of_getElem? (i := 268) rfl)
set_option maxRecDepth 100000 in
theorem ml_X10_56 : decide (Cond.methodLink "DialDesk" 56 yX6_append ∈ lw_tbl) = true := decide_eq_true (List.mem_of_getElem? (i := 367) rfl)
set_option maxRecDepth 100000 in
theorem ml_X10_68 : decide (Cond.methodLink "DialDesk" 68 yX6_entryAt ∈ lw_tbl) = true := decide_eq_true (List.mem_of_getElem? (i := 403) rfl)
set_option maxRecDepth 100000 in
theorem fl_X10_72 : fl_ok "DialDesk" 72 2 0 0 = true := fl_mk (RX2, TX2, 18) rfl (by decide +kernel) (List.mem_of_getElem? (i := 283) rfl)
set_option maxRecDepth 100000 in
theorem mb_X2_isInside : mb_ok mX2_isInside 1 = true := mb_mk (List.mem_of_getElem? (i := 407) rfl) (List.mem_of_getElem? (i := 60) rfl) (by decide +kernel)
set_option maxRecDepth 100000 in
theorem ml_X10_75 : decide (Cond.methodLink "DialDesk" 75 yX2_isInside ∈ lw_tbl) = true := decide_eq_true (List.mem_of_getElem? (i := 404) rfl)
set_option maxRecDepth 100000 in
theorem im_X2_isInside : decide (Cond.instanceMethod yX2_isInside ∈ lw_tbl) = true := decide_eq_true (List.mem_of_getElem? (i := 405) rfl)
set_option maxRecDepth 100000 in
theorem se_X2_isInside : decide (Cond.selects "DialDesk$Entry" yX2_isInside yX2_isInside ∈ lw_tbl) = true := decide_eq_true (List.mem_of_getElem? (i := 406) rfl)
set_option maxRecDepth 100000 in
theorem fq_X10_78 : fq_ok "DialDesk" 78 2 10 .int false = true := fq_mk (RX2, TX2, 18) rfl (by decide +kernel) (List.mem_of_getElem? (i := 313) rfl)
set_option maxRecDepth 100000 in
theorem fl_X10_282 : fl_ok "DialDesk" 282 2 12 0 = true := fl_mk (RX2, TX2, 18) rfl (by decide +kernel) (List.mem_of_getElem? (i := 319) rfl)
set_option maxRecDepth 100000 in
theorem ml_X10_81 : decide (Cond.methodLink "DialDesk" 81 yX6_blockAt ∈ lw_tbl) = true := decide_eq_true (List.mem_of_getElem? (i := 412) rfl)
set_option maxRecDepth 100000 in
theorem fl_X10_84 : fl_ok "DialDesk" 84 2 4 0 = true := fl_mk (RX2, TX2, 18) rfl (by decide +kernel) (List.mem_of_getElem? (i := 296) rfl)
set_option maxRecDepth 100000 in
theorem mb_X10_canChange : mb_ok mX10_canChange 3 = true := mb_mk (List.mem_of_getElem? (i := 419) rfl) (List.mem_of_getElem? (i := 52) rfl) (by decide +kernel)
set_option maxRecDepth 100000 in
theorem ml_X10_87 : decide (Cond.methodLink "DialDesk" 87 yX10_canChange ∈ lw_tbl) = true := decide_eq_true (List.mem_of_getElem? (i := 416) rfl)
set_option maxRecDepth 100000 in
theorem im_X10_canChange : decide (Cond.instanceMethod yX10_canChange ∈ lw_tbl) = true := decide_eq_true (List.mem_of_getElem? (i := 418) rfl)
set_option maxRecDepth 100000 in
theorem se_X10_canChange : decide (Cond.selects "DialDesk" yX10_canChange yX10_canChange ∈ lw_tbl) = true := decide_eq_true (List.mem_of_getElem? (i := 1) rfl)
set_option maxRecDepth 100000 in
theorem ml_X10_91 : decide (Cond.methodLink "DialDesk" 91 yX2_placesBehind ∈ lw_tbl) = true := decide_eq_true (List.mem_of_getElem? (i := 420) rfl)
set_option maxRecDepth 100000 in
theorem mb_X6_change : mb_ok mX6_change 3 = true := mb_mk (List.mem_of_getElem? (i := 427) rfl) (List.mem_of_getElem? (i := 53) rfl) (by decide +kernel)
set_option maxRecDepth 100000 in
theorem ml_X10_95 : decide (Cond.methodLink "DialDesk" 95 yX6_change ∈ lw_tbl) = true := decide_eq_true (List.mem_of_getElem? (i := 424) rfl)
set_option maxRecDepth 100000 in
theorem im_X6_change : decide (Cond.instanceMethod yX6_change ∈ lw_tbl) = true := decide_eq_true (List.mem_of_getElem? (i := 425) rfl)
set_option maxRecDepth 100000 in
theorem se_X6_change : decide (Cond.selects "DialDesk$Plan" yX6_change yX6_change ∈ lw_tbl) = true := decide_eq_true (List.mem_of_getElem? (i := 426) rfl)
set_option maxRecDepth 100000 in
theorem fl_X10_99 : fl_ok "DialDesk" 99 2 5 0 = true := fl_mk (RX2, TX2, 18) rfl (by decide +kernel) (List.mem_of_getElem? (i := 300) rfl)
set_option maxRecDepth 100000 in
theorem fl_X10_102 : fl_ok "DialDesk" 102 2 3 0 = true := fl_mk (RX2, TX2, 18) rfl (by decide +kernel) (List.mem_of_getElem? (i := 293) rfl)
set_option maxRecDepth 100000 in
theorem fl_X10_105 : fl_ok "DialDesk" 105 2 2 0 = true := fl_mk (RX2, TX2, 18) rfl (by decide +kernel) (List.mem_of_getElem? (i := 290) rfl)
set_option maxRecDepth 100000 in
theorem fl_X10_108 : fl_ok "DialDesk" 108 2 1 0 = true := fl_mk (RX2, TX2, 18) rfl (by decide +kernel) (List.mem_of_getElem? (i := 286) rfl)
set_option maxRecDepth 100000 in
theorem mb_X2_tell : mb_ok mX2_tell 1 = true := mb_mk (List.mem_of_getElem? (i := 448) rfl) (List.mem_of_getElem? (i := 60) rfl) (by decide +kernel)
set_option maxRecDepth 100000 in
theorem ml_X10_111 : decide (Cond.methodLink "DialDesk" 111 yX2_tell ∈ lw_tbl) = true := decide_eq_true (List.mem_of_getElem? (i := 445) rfl)
set_option maxRecDepth 100000 in
theorem im_X2_tell : decide (Cond.instanceMethod yX2_tell ∈ lw_tbl) = true := decide_eq_true (List.mem_of_getElem? (i := 446) rfl)
set_option maxRecDepth 100000 in
theorem se_X2_tell : decide (Cond.selects "DialDesk$Entry" yX2_tell yX2_tell ∈ lw_tbl) = true := decide_eq_true (List.mem_of_getElem? (i := 447) rfl)
set_option maxRecDepth 100000 in
theorem mb_X10_isDay : mb_ok mX10_isDay 1 = true := mb_mk (List.mem_of_getElem? (i := 455) rfl) (List.mem_of_getElem? (i := 52) rfl) (by decide +kernel)
set_option maxRecDepth 100000 in
theorem ml_X10_115 : decide (Cond.methodLink "DialDesk" 115 yX10_isDay ∈ lw_tbl) = true := decide_eq_true (List.mem_of_getElem? (i := 453) rfl)
set_option maxRecDepth 100000 in
theorem sc_X10_isDay : decide (Cond.static yX10_isDay ∈ lw_tbl) = true := decide_eq_true (List.mem_of_getElem? (i := 454) rfl)
set_option maxRecDepth 100000 in
theorem mb_X6_pairsOn : mb_ok mX6_pairsOn 1 = true := mb_mk (List.mem_of_getElem? (i := 459) rfl) (List.mem_of_getElem? (i := 53) rfl) (by decide +kernel)
set_option maxRecDepth 100000 in
theorem ml_X10_118 : decide (Cond.methodLink "DialDesk" 118 yX6_pairsOn ∈ lw_tbl) = true := decide_eq_true (List.mem_of_getElem? (i := 456) rfl)
set_option maxRecDepth 100000 in
theorem im_X6_pairsOn : decide (Cond.instanceMethod yX6_pairsOn ∈ lw_tbl) = true := decide_eq_true (List.mem_of_getElem? (i := 457) rfl)
set_option maxRecDepth 100000 in
theorem se_X6_pairsOn : decide (Cond.selects "DialDesk$Plan" yX6_pairsOn yX6_pairsOn ∈ lw_tbl) = true := decide_eq_true (List.mem_of_getElem? (i := 458) rfl)
set_option maxRecDepth 100000 in
theorem mb_X6_pairOn : mb_ok mX6_pairOn 3 = true := mb_mk (List.mem_of_getElem? (i := 485) rfl) (List.mem_of_getElem? (i := 53) rfl) (by decide +kernel)
set_option maxRecDepth 100000 in
theorem ml_X10_121 : decide (Cond.methodLink "DialDesk" 121 yX6_pairOn ∈ lw_tbl) = true := decide_eq_true (List.mem_of_getElem? (i := 482) rfl)
set_option maxRecDepth 100000 in
theorem im_X6_pairOn : decide (Cond.instanceMethod yX6_pairOn ∈ lw_tbl) = true := decide_eq_true (List.mem_of_getElem? (i := 483) rfl)
set_option maxRecDepth 100000 in
theorem se_X6_pairOn : decide (Cond.selects "DialDesk$Plan" yX6_pairOn yX6_pairOn ∈ lw_tbl) = true := decide_eq_true (List.mem_of_getElem? (i := 484) rfl)
set_option maxRecDepth 100000 in
theorem ml_X10_125 : decide (Cond.methodLink "DialDesk" 125 yX2_isInForce ∈ lw_tbl) = true := decide_eq_true (List.mem_of_getElem? (i := 498) rfl)
set_option maxRecDepth 100000 in
theorem mb_X2_hasBehind : mb_ok mX2_hasBehind 1 = true := mb_mk (List.mem_of_getElem? (i := 502) rfl) (List.mem_of_getElem? (i := 60) rfl) (by decide +kernel)
set_option maxRecDepth 100000 in
theorem ml_X10_128 : decide (Cond.methodLink "DialDesk" 128 yX2_hasBehind ∈ lw_tbl) = true := decide_eq_true (List.mem_of_getElem? (i := 499) rfl)
set_option maxRecDepth 100000 in
theorem im_X2_hasBehind : decide (Cond.instanceMethod yX2_hasBehind ∈ lw_tbl) = true := decide_eq_true (List.mem_of_getElem? (i := 500) rfl)
set_option maxRecDepth 100000 in
theorem se_X2_hasBehind : decide (Cond.selects "DialDesk$Entry" yX2_hasBehind yX2_hasBehind ∈ lw_tbl) = true := decide_eq_true (List.mem_of_getElem? (i := 501) rfl)
set_option maxRecDepth 100000 in
theorem fl_X10_19 : fl_ok "DialDesk" 19 10 1 2 = true := fl_mk (RX10, TX10, 5) rfl (by decide +kernel) (List.mem_of_getElem? (i := 227) rfl)
set_option maxRecDepth 100000 in
theorem ml_X10_131 : decide (Cond.methodLink "DialDesk" 131 yX4_findOn ∈ lw_tbl) = true := decide_eq_true (List.mem_of_getElem? (i := 504) rfl)
set_option maxRecDepth 100000 in
theorem mb_X4_append : mb_ok mX4_append 3 = true := mb_mk (List.mem_of_getElem? (i := 527) rfl) (List.mem_of_getElem? (i := 55) rfl) (by decide +kernel)
set_option maxRecDepth 100000 in
theorem ml_X10_135 : decide (Cond.methodLink "DialDesk" 135 yX4_append ∈ lw_tbl) = true := decide_eq_true (List.mem_of_getElem? (i := 524) rfl)
set_option maxRecDepth 100000 in
theorem im_X4_append : decide (Cond.instanceMethod yX4_append ∈ lw_tbl) = true := decide_eq_true (List.mem_of_getElem? (i := 525) rfl)
set_option maxRecDepth 100000 in
theorem se_X4_append : decide (Cond.selects "DialDesk$Lines" yX4_append yX4_append ∈ lw_tbl) = true := decide_eq_true (List.mem_of_getElem? (i := 526) rfl)
set_option maxRecDepth 100000 in
theorem ml_X10_138 : decide (Cond.methodLink "DialDesk" 138 yX4_lineWith ∈ lw_tbl) = true := decide_eq_true (List.mem_of_getElem? (i := 562) rfl)
set_option maxRecDepth 100000 in
theorem fl_X10_142 : fl_ok "DialDesk" 142 3 4 0 = true := fl_mk (RX3, TX3, 6) rfl (by decide +kernel) (List.mem_of_getElem? (i := 542) rfl)
set_option maxRecDepth 100000 in
theorem fq_X10_142 : fq_ok "DialDesk" 142 3 4 .int false = true := fq_mk (RX3, TX3, 6) rfl (by decide +kernel) (List.mem_of_getElem? (i := 542) rfl)
set_option maxRecDepth 100000 in
theorem mb_X4_portTo : mb_ok mX4_portTo 3 = true := mb_mk (List.mem_of_getElem? (i := 570) rfl) (List.mem_of_getElem? (i := 55) rfl) (by decide +kernel)
set_option maxRecDepth 100000 in
theorem ml_X10_145 : decide (Cond.methodLink "DialDesk" 145 yX4_portTo ∈ lw_tbl) = true := decide_eq_true (List.mem_of_getElem? (i := 567) rfl)
set_option maxRecDepth 100000 in
theorem im_X4_portTo : decide (Cond.instanceMethod yX4_portTo ∈ lw_tbl) = true := decide_eq_true (List.mem_of_getElem? (i := 568) rfl)
set_option maxRecDepth 100000 in
theorem se_X4_portTo : decide (Cond.selects "DialDesk$Lines" yX4_portTo yX4_portTo ∈ lw_tbl) = true := decide_eq_true (List.mem_of_getElem? (i := 569) rfl)
set_option maxRecDepth 100000 in
theorem kl_X10_149 : decide (Cond.constantLong "DialDesk" 149 (-1) ∈ lw_tbl) = true := decide_eq_true (List.mem_of_getElem? (i := 598) rfl)
set_option maxRecDepth 100000 in
theorem ml_X10_151 : decide (Cond.methodLink "DialDesk" 151 yX3_blockOn ∈ lw_tbl) = true := decide_eq_true (List.mem_of_getElem? (i := 599) rfl)
set_option maxRecDepth 100000 in
theorem fl_X10_154 : fl_ok "DialDesk" 154 3 1 0 = true := fl_mk (RX3, TX3, 6) rfl (by decide +kernel) (List.mem_of_getElem? (i := 538) rfl)
set_option maxRecDepth 100000 in
theorem mb_X2_numberWith : mb_ok mX2_numberWith 1 = true := mb_mk (List.mem_of_getElem? (i := 603) rfl) (List.mem_of_getElem? (i := 60) rfl) (by decide +kernel)
set_option maxRecDepth 100000 in
theorem ml_X10_157 : decide (Cond.methodLink "DialDesk" 157 yX2_numberWith ∈ lw_tbl) = true := decide_eq_true (List.mem_of_getElem? (i := 600) rfl)
set_option maxRecDepth 100000 in
theorem im_X2_numberWith : decide (Cond.instanceMethod yX2_numberWith ∈ lw_tbl) = true := decide_eq_true (List.mem_of_getElem? (i := 601) rfl)
set_option maxRecDepth 100000 in
theorem se_X2_numberWith : decide (Cond.selects "DialDesk$Entry" yX2_numberWith yX2_numberWith ∈ lw_tbl) = true := decide_eq_true (List.mem_of_getElem? (i := 602) rfl)
set_option maxRecDepth 100000 in
theorem fl_X10_161 : fl_ok "DialDesk" 161 2 9 0 = true := fl_mk (RX2, TX2, 18) rfl (by decide +kernel) (List.mem_of_getElem? (i := 311) rfl)
set_option maxRecDepth 100000 in
theorem ml_X10_164 : decide (Cond.methodLink "DialDesk" 164 yX3_carrierOn ∈ lw_tbl) = true := decide_eq_true (List.mem_of_getElem? (i := 611) rfl)
set_option maxRecDepth 100000 in
theorem mb_X10_callWith : mb_ok mX10_callWith 1 = true := mb_mk (List.mem_of_getElem? (i := 619) rfl) (List.mem_of_getElem? (i := 52) rfl) (by decide +kernel)
set_option maxRecDepth 100000 in
theorem ml_X10_167 : decide (Cond.methodLink "DialDesk" 167 yX10_callWith ∈ lw_tbl) = true := decide_eq_true (List.mem_of_getElem? (i := 616) rfl)
set_option maxRecDepth 100000 in
theorem im_X10_callWith : decide (Cond.instanceMethod yX10_callWith ∈ lw_tbl) = true := decide_eq_true (List.mem_of_getElem? (i := 618) rfl)
set_option maxRecDepth 100000 in
theorem se_X10_callWith : decide (Cond.selects "DialDesk" yX10_callWith yX10_callWith ∈ lw_tbl) = true := decide_eq_true (List.mem_of_getElem? (i := 7) rfl)
set_option maxRecDepth 100000 in
theorem mb_X0_begin : mb_ok mX0_begin 1 = true := mb_mk (List.mem_of_getElem? (i := 623) rfl) (List.mem_of_getElem? (i := 56) rfl) (by decide +kernel)
set_option maxRecDepth 100000 in
theorem ml_X10_171 : decide (Cond.methodLink "DialDesk" 171 yX0_begin ∈ lw_tbl) = true := decide_eq_true (List.mem_of_getElem? (i := 620) rfl)
set_option maxRecDepth 100000 in
theorem im_X0_begin : decide (Cond.instanceMethod yX0_begin ∈ lw_tbl) = true := decide_eq_true (List.mem_of_getElem? (i := 621) rfl)
set_option maxRecDepth 100000 in
theorem se_X0_begin : decide (Cond.selects "DialDesk$Call" yX0_begin yX0_begin ∈ lw_tbl) = true := decide_eq_true (List.mem_of_getElem? (i := 622) rfl)
set_option maxRecDepth 100000 in
theorem mb_X0_isOpen : mb_ok mX0_isOpen 0 = true := mb_mk (List.mem_of_getElem? (i := 631) rfl) (List.mem_of_getElem? (i := 56) rfl) (by decide +kernel)
set_option maxRecDepth 100000 in
theorem ml_X10_175 : decide (Cond.methodLink "DialDesk" 175 yX0_isOpen ∈ lw_tbl) = true := decide_eq_true (List.mem_of_getElem? (i := 628) rfl)
set_option maxRecDepth 100000 in
theorem im_X0_isOpen : decide (Cond.instanceMethod yX0_isOpen ∈ lw_tbl) = true := decide_eq_true (List.mem_of_getElem? (i := 629) rfl)
set_option maxRecDepth 100000 in
theorem se_X0_isOpen : decide (Cond.selects "DialDesk$Call" yX0_isOpen yX0_isOpen ∈ lw_tbl) = true := decide_eq_true (List.mem_of_getElem? (i := 630) rfl)
set_option maxRecDepth 100000 in
theorem mb_X0_hear : mb_ok mX0_hear 1 = true := mb_mk (List.mem_of_getElem? (i := 635) rfl) (List.mem_of_getElem? (i := 56) rfl) (by decide +kernel)
set_option maxRecDepth 100000 in
theorem ml_X10_179 : decide (Cond.methodLink "DialDesk" 179 yX0_hear ∈ lw_tbl) = true := decide_eq_true (List.mem_of_getElem? (i := 632) rfl)
set_option maxRecDepth 100000 in
theorem im_X0_hear : decide (Cond.instanceMethod yX0_hear ∈ lw_tbl) = true := decide_eq_true (List.mem_of_getElem? (i := 633) rfl)
set_option maxRecDepth 100000 in
theorem se_X0_hear : decide (Cond.selects "DialDesk$Call" yX0_hear yX0_hear ∈ lw_tbl) = true := decide_eq_true (List.mem_of_getElem? (i := 634) rfl)
set_option maxRecDepth 100000 in
theorem fl_X10_182 : fl_ok "DialDesk" 182 0 5 1 = true := fl_mk (RX0, TX0, 6) rfl (by decide +kernel) (List.mem_of_getElem? (i := 159) rfl)
set_option maxRecDepth 100000 in
theorem fl_X10_185 : fl_ok "DialDesk" 185 0 4 0 = true := fl_mk (RX0, TX0, 6) rfl (by decide +kernel) (List.mem_of_getElem? (i := 157) rfl)
set_option maxRecDepth 100000 in
theorem fl_X10_186 : fl_ok "DialDesk" 186 0 2 0 = true := fl_mk (RX0, TX0, 6) rfl (by decide +kernel) (List.mem_of_getElem? (i := 153) rfl)
set_option maxRecDepth 100000 in
theorem mb_X6_read : mb_ok mX6_read 3 = true := mb_mk (List.mem_of_getElem? (i := 640) rfl) (List.mem_of_getElem? (i := 53) rfl) (by decide +kernel)
set_option maxRecDepth 100000 in
theorem ml_X10_189 : decide (Cond.methodLink "DialDesk" 189 yX6_read ∈ lw_tbl) = true := decide_eq_true (List.mem_of_getElem? (i := 637) rfl)
set_option maxRecDepth 100000 in
theorem im_X6_read : decide (Cond.instanceMethod yX6_read ∈ lw_tbl) = true := decide_eq_true (List.mem_of_getElem? (i := 638) rfl)
set_option maxRecDepth 100000 in
theorem se_X6_read : decide (Cond.selects "DialDesk$Plan" yX6_read yX6_read ∈ lw_tbl) = true := decide_eq_true (List.mem_of_getElem? (i := 639) rfl)
set_option maxRecDepth 100000 in
theorem mb_X8_answer : mb_ok mX8_answer 0 = true := mb_mk (List.mem_of_getElem? (i := 663) rfl) (List.mem_of_getElem? (i := 54) rfl) (by decide +kernel)
set_option maxRecDepth 100000 in
theorem ml_X10_193 : decide (Cond.methodLink "DialDesk" 193 yX8_answer ∈ lw_tbl) = true := decide_eq_true (List.mem_of_getElem? (i := 660) rfl)
set_option maxRecDepth 100000 in
theorem im_X8_answer : decide (Cond.instanceMethod yX8_answer ∈ lw_tbl) = true := decide_eq_true (List.mem_of_getElem? (i := 661) rfl)
set_option maxRecDepth 100000 in
theorem se_X8_answer : decide (Cond.selects "DialDesk$Reading" yX8_answer yX8_answer ∈ lw_tbl) = true := decide_eq_true (List.mem_of_getElem? (i := 662) rfl)
set_option maxRecDepth 100000 in
theorem fq_X10_198 : fq_ok "DialDesk" 198 0 3 .int false = true := fq_mk (RX0, TX0, 6) rfl (by decide +kernel) (List.mem_of_getElem? (i := 155) rfl)
set_option maxRecDepth 100000 in
theorem fl_X10_198 : fl_ok "DialDesk" 198 0 3 0 = true := fl_mk (RX0, TX0, 6) rfl (by decide +kernel) (List.mem_of_getElem? (i := 155) rfl)
set_option maxRecDepth 100000 in
theorem fq_X10_200 : fq_ok "DialDesk" 200 0 1 .boolean false = true := fq_mk (RX0, TX0, 6) rfl (by decide +kernel) (List.mem_of_getElem? (i := 151) rfl)
set_option maxRecDepth 100000 in
theorem fl_X10_200 : fl_ok "DialDesk" 200 0 1 0 = true := fl_mk (RX0, TX0, 6) rfl (by decide +kernel) (List.mem_of_getElem? (i := 151) rfl)
set_option maxRecDepth 100000 in
theorem mb_X6_leadOf : mb_ok mX6_leadOf 3 = true := mb_mk (List.mem_of_getElem? (i := 679) rfl) (List.mem_of_getElem? (i := 53) rfl) (by decide +kernel)
set_option maxRecDepth 100000 in
theorem ml_X10_214 : decide (Cond.methodLink "DialDesk" 214 yX6_leadOf ∈ lw_tbl) = true := decide_eq_true (List.mem_of_getElem? (i := 676) rfl)
set_option maxRecDepth 100000 in
theorem im_X6_leadOf : decide (Cond.instanceMethod yX6_leadOf ∈ lw_tbl) = true := decide_eq_true (List.mem_of_getElem? (i := 677) rfl)
set_option maxRecDepth 100000 in
theorem se_X6_leadOf : decide (Cond.selects "DialDesk$Plan" yX6_leadOf yX6_leadOf ∈ lw_tbl) = true := decide_eq_true (List.mem_of_getElem? (i := 678) rfl)
set_option maxRecDepth 100000 in
theorem mb_X4_findBy : mb_ok mX4_findBy 4 = true := mb_mk (List.mem_of_getElem? (i := 691) rfl) (List.mem_of_getElem? (i := 55) rfl) (by decide +kernel)
set_option maxRecDepth 100000 in
theorem ml_X10_218 : decide (Cond.methodLink "DialDesk" 218 yX4_findBy ∈ lw_tbl) = true := decide_eq_true (List.mem_of_getElem? (i := 688) rfl)
set_option maxRecDepth 100000 in
theorem im_X4_findBy : decide (Cond.instanceMethod yX4_findBy ∈ lw_tbl) = true := decide_eq_true (List.mem_of_getElem? (i := 689) rfl)
set_option maxRecDepth 100000 in
theorem se_X4_findBy : decide (Cond.selects "DialDesk$Lines" yX4_findBy yX4_findBy ∈ lw_tbl) = true := decide_eq_true (List.mem_of_getElem? (i := 690) rfl)
set_option maxRecDepth 100000 in
theorem fl_X10_291 : fl_ok "DialDesk" 291 8 3 0 = true := fl_mk (RX8, TX8, 4) rfl (by decide +kernel) (List.mem_of_getElem? (i := 95) rfl)
set_option maxRecDepth 100000 in
theorem fl_X10_288 : fl_ok "DialDesk" 288 8 2 0 = true := fl_mk (RX8, TX8, 4) rfl (by decide +kernel) (List.mem_of_getElem? (i := 93) rfl)
set_option maxRecDepth 100000 in
theorem fl_X10_285 : fl_ok "DialDesk" 285 8 1 0 = true := fl_mk (RX8, TX8, 4) rfl (by decide +kernel) (List.mem_of_getElem? (i := 91) rfl)
set_option maxRecDepth 100000 in
theorem fl_X10_204 : fl_ok "DialDesk" 204 0 0 0 = true := fl_mk (RX0, TX0, 6) rfl (by decide +kernel) (List.mem_of_getElem? (i := 149) rfl)
set_option maxRecDepth 100000 in
theorem mb_X10_tellOfLead : mb_ok mX10_tellOfLead 2 = true := mb_mk (List.mem_of_getElem? (i := 675) rfl) (List.mem_of_getElem? (i := 52) rfl) (by decide +kernel)
set_option maxRecDepth 100000 in
theorem ml_X10_207 : decide (Cond.methodLink "DialDesk" 207 yX10_tellOfLead ∈ lw_tbl) = true := decide_eq_true (List.mem_of_getElem? (i := 672) rfl)
set_option maxRecDepth 100000 in
theorem im_X10_tellOfLead : decide (Cond.instanceMethod yX10_tellOfLead ∈ lw_tbl) = true := decide_eq_true (List.mem_of_getElem? (i := 674) rfl)
set_option maxRecDepth 100000 in
theorem se_X10_tellOfLead : decide (Cond.selects "DialDesk" yX10_tellOfLead yX10_tellOfLead ∈ lw_tbl) = true := decide_eq_true (List.mem_of_getElem? (i := 8) rfl)
set_option maxRecDepth 100000 in
theorem mb_X10_tellOfRest : mb_ok mX10_tellOfRest 2 = true := mb_mk (List.mem_of_getElem? (i := 702) rfl) (List.mem_of_getElem? (i := 52) rfl) (by decide +kernel)
set_option maxRecDepth 100000 in
theorem ml_X10_211 : decide (Cond.methodLink "DialDesk" 211 yX10_tellOfRest ∈ lw_tbl) = true := decide_eq_true (List.mem_of_getElem? (i := 699) rfl)
set_option maxRecDepth 100000 in
theorem im_X10_tellOfRest : decide (Cond.instanceMethod yX10_tellOfRest ∈ lw_tbl) = true := decide_eq_true (List.mem_of_getElem? (i := 701) rfl)
set_option maxRecDepth 100000 in
theorem se_X10_tellOfRest : decide (Cond.selects "DialDesk" yX10_tellOfRest yX10_tellOfRest ∈ lw_tbl) = true := decide_eq_true (List.mem_of_getElem? (i := 9) rfl)
set_option maxRecDepth 100000 in
theorem fl_X10_35 : fl_ok "DialDesk" 35 10 3 2 = true := fl_mk (RX10, TX10, 5) rfl (by decide +kernel) (List.mem_of_getElem? (i := 229) rfl)
set_option maxRecDepth 100000 in
theorem mb_X9_demandOf : mb_ok mX9_demandOf 1 = true := mb_mk (List.mem_of_getElem? (i := 714) rfl) (List.mem_of_getElem? (i := 57) rfl) (by decide +kernel)
set_option maxRecDepth 100000 in
theorem ml_X10_222 : decide (Cond.methodLink "DialDesk" 222 yX9_demandOf ∈ lw_tbl) = true := decide_eq_true (List.mem_of_getElem? (i := 711) rfl)
set_option maxRecDepth 100000 in
theorem im_X9_demandOf : decide (Cond.instanceMethod yX9_demandOf ∈ lw_tbl) = true := decide_eq_true (List.mem_of_getElem? (i := 712) rfl)
set_option maxRecDepth 100000 in
theorem se_X9_demandOf : decide (Cond.selects "DialDesk$Supply" yX9_demandOf yX9_demandOf ∈ lw_tbl) = true := decide_eq_true (List.mem_of_getElem? (i := 713) rfl)
set_option maxRecDepth 100000 in
theorem ki_X10_226 : decide (Cond.constant "DialDesk" 226 1000000000 ∈ lw_tbl) = true := decide_eq_true (List.mem_of_getElem? (i := 715) rfl)
set_option maxRecDepth 100000 in
theorem ki_X10_227 : decide (Cond.constant "DialDesk" 227 1000000 ∈ lw_tbl) = true := decide_eq_true (List.mem_of_getElem? (i := 716) rfl)
set_option maxRecDepth 100000 in
theorem fl_X10_228 : fl_ok "DialDesk" 228 1 1 0 = true := fl_mk (RX1, TX1, 3) rfl (by decide +kernel) (List.mem_of_getElem? (i := 189) rfl)
set_option maxRecDepth 100000 in
theorem fq_X10_228 : fq_ok "DialDesk" 228 1 1 .int false = true := fq_mk (RX1, TX1, 3) rfl (by decide +kernel) (List.mem_of_getElem? (i := 189) rfl)
set_option maxRecDepth 100000 in
theorem fq_X10_233 : fq_ok "DialDesk" 233 1 2 .int false = true := fq_mk (RX1, TX1, 3) rfl (by decide +kernel) (List.mem_of_getElem? (i := 191) rfl)
set_option maxRecDepth 100000 in
theorem kl_X10_236 : decide (Cond.constantLong "DialDesk" 236 (-2) ∈ lw_tbl) = true := decide_eq_true (List.mem_of_getElem? (i := 721) rfl)
set_option maxRecDepth 100000 in
theorem ml_X10_238 : decide (Cond.methodLink "DialDesk" 238 yX6_roomOf ∈ lw_tbl) = true := decide_eq_true (List.mem_of_getElem? (i := 722) rfl)
set_option maxRecDepth 100000 in
theorem ml_X10_242 : decide (Cond.methodLink "DialDesk" 242 yX9_firstShort ∈ lw_tbl) = true := decide_eq_true (List.mem_of_getElem? (i := 742) rfl)
theorem nw_5 : ∀ j, j < nf_ 5 → defaultValue ((parseFieldDescriptor (((RX5, TX5, 2) : vw_C).2.1 j).2.2.1).getD .int) = if kd_ 5 j = 0 then .int 0 else if kd_ 5 j = 1 then .long 0 else .null := by decide +kernel
theorem it_5 : decide (Cond.instantiable "DialDesk$Option" 2 ∈ lw_tbl) = true := by decide +kernel
theorem iz_5 : decide (Cond.initialized "DialDesk$Option" ∈ lw_tbl) = true := by decide +kernel
set_option maxRecDepth 100000 in
theorem cl_X10_246 : decide (Cond.classLink "DialDesk" 246 "DialDesk$Option" ∈ lw_tbl) = true := decide_eq_true (List.mem_of_getElem? (i := 774) rfl)
set_option maxRecDepth 100000 in
theorem mb_X5_init : mb_ok mX5_init 2 = true := mb_mk (List.mem_of_getElem? (i := 778) rfl) (List.mem_of_getElem? (i := 66) rfl) (by decide +kernel)
set_option maxRecDepth 100000 in
theorem ml_X10_248 : decide (Cond.methodLink "DialDesk" 248 yX5_init ∈ lw_tbl) = true := decide_eq_true (List.mem_of_getElem? (i := 776) rfl)
set_option maxRecDepth 100000 in
theorem im_X5_init : decide (Cond.instanceMethod yX5_init ∈ lw_tbl) = true := decide_eq_true (List.mem_of_getElem? (i := 777) rfl)
set_option maxRecDepth 100000 in
theorem mb_X9_offer : mb_ok mX9_offer 1 = true := mb_mk (List.mem_of_getElem? (i := 793) rfl) (List.mem_of_getElem? (i := 57) rfl) (by decide +kernel)
set_option maxRecDepth 100000 in
theorem ml_X10_251 : decide (Cond.methodLink "DialDesk" 251 yX9_offer ∈ lw_tbl) = true := decide_eq_true (List.mem_of_getElem? (i := 790) rfl)
set_option maxRecDepth 100000 in
theorem im_X9_offer : decide (Cond.instanceMethod yX9_offer ∈ lw_tbl) = true := decide_eq_true (List.mem_of_getElem? (i := 791) rfl)
set_option maxRecDepth 100000 in
theorem se_X9_offer : decide (Cond.selects "DialDesk$Supply" yX9_offer yX9_offer ∈ lw_tbl) = true := decide_eq_true (List.mem_of_getElem? (i := 792) rfl)
set_option maxRecDepth 100000 in
theorem mb_X9_cheapestRelief : mb_ok mX9_cheapestRelief 3 = true := mb_mk (List.mem_of_getElem? (i := 801) rfl) (List.mem_of_getElem? (i := 57) rfl) (by decide +kernel)
set_option maxRecDepth 100000 in
theorem ml_X10_255 : decide (Cond.methodLink "DialDesk" 255 yX9_cheapestRelief ∈ lw_tbl) = true := decide_eq_true (List.mem_of_getElem? (i := 798) rfl)
set_option maxRecDepth 100000 in
theorem im_X9_cheapestRelief : decide (Cond.instanceMethod yX9_cheapestRelief ∈ lw_tbl) = true := decide_eq_true (List.mem_of_getElem? (i := 799) rfl)
set_option maxRecDepth 100000 in
theorem se_X9_cheapestRelief : decide (Cond.selects "DialDesk$Supply" yX9_cheapestRelief yX9_cheapestRelief ∈ lw_tbl) = true := decide_eq_true (List.mem_of_getElem? (i := 800) rfl)
set_option maxRecDepth 100000 in
theorem ml_X10_259 : decide (Cond.methodLink "DialDesk" 259 yX9_optionAt ∈ lw_tbl) = true := decide_eq_true (List.mem_of_getElem? (i := 851) rfl)
set_option maxRecDepth 100000 in
theorem fl_X10_263 : fl_ok "DialDesk" 263 5 0 2 = true := fl_mk (RX5, TX5, 2) rfl (by decide +kernel) (List.mem_of_getElem? (i := 782) rfl)
set_option maxRecDepth 100000 in
theorem fl_X10_267 : fl_ok "DialDesk" 267 2 7 0 = true := fl_mk (RX2, TX2, 18) rfl (by decide +kernel) (List.mem_of_getElem? (i := 307) rfl)
set_option maxRecDepth 100000 in
theorem mb_X9_withdraw : mb_ok mX9_withdraw 1 = true := mb_mk (List.mem_of_getElem? (i := 855) rfl) (List.mem_of_getElem? (i := 57) rfl) (by decide +kernel)
set_option maxRecDepth 100000 in
theorem ml_X10_268 : decide (Cond.methodLink "DialDesk" 268 yX9_withdraw ∈ lw_tbl) = true := decide_eq_true (List.mem_of_getElem? (i := 852) rfl)
set_option maxRecDepth 100000 in
theorem im_X9_withdraw : decide (Cond.instanceMethod yX9_withdraw ∈ lw_tbl) = true := decide_eq_true (List.mem_of_getElem? (i := 853) rfl)
set_option maxRecDepth 100000 in
theorem se_X9_withdraw : decide (Cond.selects "DialDesk$Supply" yX9_withdraw yX9_withdraw ∈ lw_tbl) = true := decide_eq_true (List.mem_of_getElem? (i := 854) rfl)
set_option maxRecDepth 100000 in
theorem fl_X10_271 : fl_ok "DialDesk" 271 6 1 0 = true := fl_mk (RX6, TX6, 5) rfl (by decide +kernel) (List.mem_of_getElem? (i := 107) rfl)
set_option maxRecDepth 100000 in
theorem fl_X10_274 : fl_ok "DialDesk" 274 4 1 0 = true := fl_mk (RX4, TX4, 3) rfl (by decide +kernel) (List.mem_of_getElem? (i := 132) rfl)
set_option maxRecDepth 100000 in
theorem fl_X10_275 : fl_ok "DialDesk" 275 9 3 0 = true := fl_mk (RX9, TX9, 7) rfl (by decide +kernel) (List.mem_of_getElem? (i := 205) rfl)
set_option maxRecDepth 100000 in
theorem mb_X6_inForceOn : mb_ok mX6_inForceOn 1 = true := mb_mk (List.mem_of_getElem? (i := 863) rfl) (List.mem_of_getElem? (i := 53) rfl) (by decide +kernel)
set_option maxRecDepth 100000 in
theorem ml_X10_276 : decide (Cond.methodLink "DialDesk" 276 yX6_inForceOn ∈ lw_tbl) = true := decide_eq_true (List.mem_of_getElem? (i := 860) rfl)
set_option maxRecDepth 100000 in
theorem im_X6_inForceOn : decide (Cond.instanceMethod yX6_inForceOn ∈ lw_tbl) = true := decide_eq_true (List.mem_of_getElem? (i := 861) rfl)
set_option maxRecDepth 100000 in
theorem se_X6_inForceOn : decide (Cond.selects "DialDesk$Plan" yX6_inForceOn yX6_inForceOn ∈ lw_tbl) = true := decide_eq_true (List.mem_of_getElem? (i := 862) rfl)
set_option maxRecDepth 100000 in
theorem mb_X4_numberedOn : mb_ok mX4_numberedOn 1 = true := mb_mk (List.mem_of_getElem? (i := 867) rfl) (List.mem_of_getElem? (i := 55) rfl) (by decide +kernel)
set_option maxRecDepth 100000 in
theorem ml_X10_279 : decide (Cond.methodLink "DialDesk" 279 yX4_numberedOn ∈ lw_tbl) = true := decide_eq_true (List.mem_of_getElem? (i := 864) rfl)
set_option maxRecDepth 100000 in
theorem im_X4_numberedOn : decide (Cond.instanceMethod yX4_numberedOn ∈ lw_tbl) = true := decide_eq_true (List.mem_of_getElem? (i := 865) rfl)
set_option maxRecDepth 100000 in
theorem se_X4_numberedOn : decide (Cond.selects "DialDesk$Lines" yX4_numberedOn yX4_numberedOn ∈ lw_tbl) = true := decide_eq_true (List.mem_of_getElem? (i := 866) rfl)
set_option maxRecDepth 100000 in
theorem oi_X11_1 : decide (Cond.methodLink "DialDeskModel" 1 objectInit ∈ lw_tbl) = true := decide_eq_true (List.mem_of_getElem? (i := 873) rfl)
set_option maxRecDepth 100000 in
theorem fq_X11_7 : fq_ok "DialDeskModel" 7 11 2 (.array .int) true = true := fq_mk (RX11, TX11, 38) rfl (by decide +kernel) (List.mem_of_getElem? (i := 876) rfl)
set_option maxRecDepth 100000 in
theorem fq_X11_13 : fq_ok "DialDeskModel" 13 11 3 (.array .int) true = true := fq_mk (RX11, TX11, 38) rfl (by decide +kernel) (List.mem_of_getElem? (i := 877) rfl)
set_option maxRecDepth 100000 in
theorem fq_X11_16 : fq_ok "DialDeskModel" 16 11 4 (.array .int) true = true := fq_mk (RX11, TX11, 38) rfl (by decide +kernel) (List.mem_of_getElem? (i := 878) rfl)
set_option maxRecDepth 100000 in
theorem fq_X11_19 : fq_ok "DialDeskModel" 19 11 5 (.array .int) true = true := fq_mk (RX11, TX11, 38) rfl (by decide +kernel) (List.mem_of_getElem? (i := 879) rfl)
set_option maxRecDepth 100000 in
theorem fq_X11_22 : fq_ok "DialDeskModel" 22 11 6 (.array .int) true = true := fq_mk (RX11, TX11, 38) rfl (by decide +kernel) (List.mem_of_getElem? (i := 880) rfl)
set_option maxRecDepth 100000 in
theorem fq_X11_25 : fq_ok "DialDeskModel" 25 11 7 (.array .int) true = true := fq_mk (RX11, TX11, 38) rfl (by decide +kernel) (List.mem_of_getElem? (i := 881) rfl)
set_option maxRecDepth 100000 in
theorem fq_X11_28 : fq_ok "DialDeskModel" 28 11 8 (.array .int) true = true := fq_mk (RX11, TX11, 38) rfl (by decide +kernel) (List.mem_of_getElem? (i := 882) rfl)
set_option maxRecDepth 100000 in
theorem fq_X11_31 : fq_ok "DialDeskModel" 31 11 9 (.array .int) true = true := fq_mk (RX11, TX11, 38) rfl (by decide +kernel) (List.mem_of_getElem? (i := 883) rfl)
set_option maxRecDepth 100000 in
theorem fq_X11_34 : fq_ok "DialDeskModel" 34 11 10 (.array .int) true = true := fq_mk (RX11, TX11, 38) rfl (by decide +kernel) (List.mem_of_getElem? (i := 884) rfl)
set_option maxRecDepth 100000 in
theorem fq_X11_37 : fq_ok "DialDeskModel" 37 11 11 (.array .int) true = true := fq_mk (RX11, TX11, 38) rfl (by decide +kernel) (List.mem_of_getElem? (i := 885) rfl)
set_option maxRecDepth 100000 in
theorem fq_X11_40 : fq_ok "DialDeskModel" 40 11 12 (.array .int) true = true := fq_mk (RX11, TX11, 38) rfl (by decide +kernel) (List.mem_of_getElem? (i := 886) rfl)
set_option maxRecDepth 100000 in
theorem fq_X11_43 : fq_ok "DialDeskModel" 43 11 13 (.array .int) true = true := fq_mk (RX11, TX11, 38) rfl (by decide +kernel) (List.mem_of_getElem? (i := 887) rfl)
set_option maxRecDepth 100000 in
theorem fq_X11_46 : fq_ok "DialDeskModel" 46 11 14 (.array .int) true = true := fq_mk (RX11, TX11, 38) rfl (by decide +kernel) (List.mem_of_getElem? (i := 888) rfl)
set_option maxRecDepth 100000 in
theorem fq_X11_49 : fq_ok "DialDeskModel" 49 11 15 (.array .long) true = true := fq_mk (RX11, TX11, 38) rfl (by decide +kernel) (List.mem_of_getElem? (i := 889) rfl)
set_option maxRecDepth 100000 in
theorem fq_X11_53 : fq_ok "DialDeskModel" 53 11 17 (.array .int) true = true := fq_mk (RX11, TX11, 38) rfl (by decide +kernel) (List.mem_of_getElem? (i := 891) rfl)
set_option maxRecDepth 100000 in
theorem fq_X11_56 : fq_ok "DialDeskModel" 56 11 18 (.array .long) true = true := fq_mk (RX11, TX11, 38) rfl (by decide +kernel) (List.mem_of_getElem? (i := 892) rfl)
set_option maxRecDepth 100000 in
theorem fq_X11_59 : fq_ok "DialDeskModel" 59 11 19 (.array .int) true = true := fq_mk (RX11, TX11, 38) rfl (by decide +kernel) (List.mem_of_getElem? (i := 893) rfl)
set_option maxRecDepth 100000 in
theorem fq_X11_62 : fq_ok "DialDeskModel" 62 11 20 (.array .int) true = true := fq_mk (RX11, TX11, 38) rfl (by decide +kernel) (List.mem_of_getElem? (i := 894) rfl)
set_option maxRecDepth 100000 in
theorem fq_X11_65 : fq_ok "DialDeskModel" 65 11 22 (.array .int) true = true := fq_mk (RX11, TX11, 38) rfl (by decide +kernel) (List.mem_of_getElem? (i := 896) rfl)
set_option maxRecDepth 100000 in
theorem fq_X11_68 : fq_ok "DialDeskModel" 68 11 23 (.array .int) true = true := fq_mk (RX11, TX11, 38) rfl (by decide +kernel) (List.mem_of_getElem? (i := 897) rfl)
set_option maxRecDepth 100000 in
theorem fq_X11_71 : fq_ok "DialDeskModel" 71 11 24 (.array .int) true = true := fq_mk (RX11, TX11, 38) rfl (by decide +kernel) (List.mem_of_getElem? (i := 898) rfl)
set_option maxRecDepth 100000 in
theorem fq_X11_74 : fq_ok "DialDeskModel" 74 11 25 (.array .int) true = true := fq_mk (RX11, TX11, 38) rfl (by decide +kernel) (List.mem_of_getElem? (i := 899) rfl)
set_option maxRecDepth 100000 in
theorem fq_X11_77 : fq_ok "DialDeskModel" 77 11 26 (.array .int) true = true := fq_mk (RX11, TX11, 38) rfl (by decide +kernel) (List.mem_of_getElem? (i := 900) rfl)
set_option maxRecDepth 100000 in
theorem fq_X11_80 : fq_ok "DialDeskModel" 80 11 27 (.array .int) true = true := fq_mk (RX11, TX11, 38) rfl (by decide +kernel) (List.mem_of_getElem? (i := 901) rfl)
set_option maxRecDepth 100000 in
theorem fq_X11_83 : fq_ok "DialDeskModel" 83 11 28 (.array .int) true = true := fq_mk (RX11, TX11, 38) rfl (by decide +kernel) (List.mem_of_getElem? (i := 902) rfl)
theorem ac_boolean : decide (Cond.arrayClass (newarray.typeOf .boolean) ∈ lw_tbl) = true := by decide +kernel
set_option maxRecDepth 100000 in
theorem fq_X11_86 : fq_ok "DialDeskModel" 86 11 29 (.array .boolean) true = true := fq_mk (RX11, TX11, 38) rfl (by decide +kernel) (List.mem_of_getElem? (i := 903) rfl)
set_option maxRecDepth 100000 in
theorem fq_X11_90 : fq_ok "DialDeskModel" 90 11 30 (.array .boolean) true = true := fq_mk (RX11, TX11, 38) rfl (by decide +kernel) (List.mem_of_getElem? (i := 904) rfl)
set_option maxRecDepth 100000 in
theorem fq_X11_93 : fq_ok "DialDeskModel" 93 11 31 (.array .int) true = true := fq_mk (RX11, TX11, 38) rfl (by decide +kernel) (List.mem_of_getElem? (i := 905) rfl)
set_option maxRecDepth 100000 in
theorem fq_X11_96 : fq_ok "DialDeskModel" 96 11 33 (.array .int) true = true := fq_mk (RX11, TX11, 38) rfl (by decide +kernel) (List.mem_of_getElem? (i := 907) rfl)
set_option maxRecDepth 100000 in
theorem fq_X11_99 : fq_ok "DialDeskModel" 99 11 34 (.array .int) true = true := fq_mk (RX11, TX11, 38) rfl (by decide +kernel) (List.mem_of_getElem? (i := 908) rfl)
set_option maxRecDepth 100000 in
theorem fq_X11_102 : fq_ok "DialDeskModel" 102 11 36 (.array .int) true = true := fq_mk (RX11, TX11, 38) rfl (by decide +kernel) (List.mem_of_getElem? (i := 910) rfl)
set_option maxRecDepth 100000 in
theorem fq_X11_105 : fq_ok "DialDeskModel" 105 11 37 (.array .long) true = true := fq_mk (RX11, TX11, 38) rfl (by decide +kernel) (List.mem_of_getElem? (i := 911) rfl)
set_option maxRecDepth 100000 in
theorem kl_X11_108 : decide (Cond.constantLong "DialDeskModel" 108 20000 ∈ lw_tbl) = true := decide_eq_true (List.mem_of_getElem? (i := 994) rfl)
set_option maxRecDepth 100000 in
theorem mb_X11_in : mb_ok mX11_in 3 = true := mb_mk (List.mem_of_getElem? (i := 997) rfl) (List.mem_of_getElem? (i := 59) rfl) (by decide +kernel)
set_option maxRecDepth 100000 in
theorem ml_X11_110 : decide (Cond.methodLink "DialDeskModel" 110 yX11_in ∈ lw_tbl) = true := decide_eq_true (List.mem_of_getElem? (i := 995) rfl)
set_option maxRecDepth 100000 in
theorem sc_X11_in : decide (Cond.static yX11_in ∈ lw_tbl) = true := decide_eq_true (List.mem_of_getElem? (i := 996) rfl)
set_option maxRecDepth 100000 in
theorem fl_X11_114 : fl_ok "DialDeskModel" 114 11 0 0 = true := fl_mk (RX11, TX11, 38) rfl (by decide +kernel) (List.mem_of_getElem? (i := 874) rfl)
set_option maxRecDepth 100000 in
theorem fq_X11_114 : fq_ok "DialDeskModel" 114 11 0 .int false = true := fq_mk (RX11, TX11, 38) rfl (by decide +kernel) (List.mem_of_getElem? (i := 874) rfl)
set_option maxRecDepth 100000 in
theorem kl_X11_118 : decide (Cond.constantLong "DialDeskModel" 118 9 ∈ lw_tbl) = true := decide_eq_true (List.mem_of_getElem? (i := 1013) rfl)
set_option maxRecDepth 100000 in
theorem kl_X11_120 : decide (Cond.constantLong "DialDeskModel" 120 10 ∈ lw_tbl) = true := decide_eq_true (List.mem_of_getElem? (i := 1014) rfl)
set_option maxRecDepth 100000 in
theorem mb_X11_figuresOf : mb_ok mX11_figuresOf 1 = true := mb_mk (List.mem_of_getElem? (i := 1012) rfl) (List.mem_of_getElem? (i := 59) rfl) (by decide +kernel)
set_option maxRecDepth 100000 in
theorem ml_X11_122 : decide (Cond.methodLink "DialDeskModel" 122 yX11_figuresOf ∈ lw_tbl) = true := decide_eq_true (List.mem_of_getElem? (i := 1010) rfl)
set_option maxRecDepth 100000 in
theorem sc_X11_figuresOf : decide (Cond.static yX11_figuresOf ∈ lw_tbl) = true := decide_eq_true (List.mem_of_getElem? (i := 1011) rfl)
set_option maxRecDepth 100000 in
theorem fl_X11_16 : fl_ok "DialDeskModel" 16 11 4 2 = true := fl_mk (RX11, TX11, 38) rfl (by decide +kernel) (List.mem_of_getElem? (i := 878) rfl)
set_option maxRecDepth 100000 in
theorem mb_X11_lengthOf : mb_ok mX11_lengthOf 1 = true := mb_mk (List.mem_of_getElem? (i := 1009) rfl) (List.mem_of_getElem? (i := 59) rfl) (by decide +kernel)
set_option maxRecDepth 100000 in
theorem ml_X11_139 : decide (Cond.methodLink "DialDeskModel" 139 yX11_lengthOf ∈ lw_tbl) = true := decide_eq_true (List.mem_of_getElem? (i := 1007) rfl)
set_option maxRecDepth 100000 in
theorem sc_X11_lengthOf : decide (Cond.static yX11_lengthOf ∈ lw_tbl) = true := decide_eq_true (List.mem_of_getElem? (i := 1008) rfl)
set_option maxRecDepth 100000 in
theorem fl_X11_19 : fl_ok "DialDeskModel" 19 11 5 2 = true := fl_mk (RX11, TX11, 38) rfl (by decide +kernel) (List.mem_of_getElem? (i := 879) rfl)
set_option maxRecDepth 100000 in
theorem fl_X11_22 : fl_ok "DialDeskModel" 22 11 6 2 = true := fl_mk (RX11, TX11, 38) rfl (by decide +kernel) (List.mem_of_getElem? (i := 880) rfl)
set_option maxRecDepth 100000 in
theorem fl_X11_7 : fl_ok "DialDeskModel" 7 11 2 2 = true := fl_mk (RX11, TX11, 38) rfl (by decide +kernel) (List.mem_of_getElem? (i := 876) rfl)
set_option maxRecDepth 100000 in
theorem fl_X11_13 : fl_ok "DialDeskModel" 13 11 3 2 = true := fl_mk (RX11, TX11, 38) rfl (by decide +kernel) (List.mem_of_getElem? (i := 877) rfl)
set_option maxRecDepth 100000 in
theorem fl_X11_25 : fl_ok "DialDeskModel" 25 11 7 2 = true := fl_mk (RX11, TX11, 38) rfl (by decide +kernel) (List.mem_of_getElem? (i := 881) rfl)
set_option maxRecDepth 100000 in
theorem fl_X11_28 : fl_ok "DialDeskModel" 28 11 8 2 = true := fl_mk (RX11, TX11, 38) rfl (by decide +kernel) (List.mem_of_getElem? (i := 882) rfl)
set_option maxRecDepth 100000 in
theorem fl_X11_31 : fl_ok "DialDeskModel" 31 11 9 2 = true := fl_mk (RX11, TX11, 38) rfl (by decide +kernel) (List.mem_of_getElem? (i := 883) rfl)
set_option maxRecDepth 100000 in
theorem fl_X11_34 : fl_ok "DialDeskModel" 34 11 10 2 = true := fl_mk (RX11, TX11, 38) rfl (by decide +kernel) (List.mem_of_getElem? (i := 884) rfl)
set_option maxRecDepth 100000 in
theorem fl_X11_37 : fl_ok "DialDeskModel" 37 11 11 2 = true := fl_mk (RX11, TX11, 38) rfl (by decide +kernel) (List.mem_of_getElem? (i := 885) rfl)
set_option maxRecDepth 100000 in
theorem fl_X11_40 : fl_ok "DialDeskModel" 40 11 12 2 = true := fl_mk (RX11, TX11, 38) rfl (by decide +kernel) (List.mem_of_getElem? (i := 886) rfl)
set_option maxRecDepth 100000 in
theorem fl_X11_43 : fl_ok "DialDeskModel" 43 11 13 2 = true := fl_mk (RX11, TX11, 38) rfl (by decide +kernel) (List.mem_of_getElem? (i := 887) rfl)
set_option maxRecDepth 100000 in
theorem fl_X11_46 : fl_ok "DialDeskModel" 46 11 14 2 = true := fl_mk (RX11, TX11, 38) rfl (by decide +kernel) (List.mem_of_getElem? (i := 888) rfl)
set_option maxRecDepth 100000 in
theorem fl_X11_49 : fl_ok "DialDeskModel" 49 11 15 2 = true := fl_mk (RX11, TX11, 38) rfl (by decide +kernel) (List.mem_of_getElem? (i := 889) rfl)
set_option maxRecDepth 100000 in
theorem mb_X11_numbersOf : mb_ok mX11_numbersOf 1 = true := mb_mk (List.mem_of_getElem? (i := 1033) rfl) (List.mem_of_getElem? (i := 59) rfl) (by decide +kernel)
set_option maxRecDepth 100000 in
theorem ml_X11_126 : decide (Cond.methodLink "DialDeskModel" 126 yX11_numbersOf ∈ lw_tbl) = true := decide_eq_true (List.mem_of_getElem? (i := 1030) rfl)
set_option maxRecDepth 100000 in
theorem im_X11_numbersOf : decide (Cond.instanceMethod yX11_numbersOf ∈ lw_tbl) = true := decide_eq_true (List.mem_of_getElem? (i := 1032) rfl)
set_option maxRecDepth 100000 in
theorem se_X11_numbersOf : decide (Cond.selects "DialDeskModel" yX11_numbersOf yX11_numbersOf ∈ lw_tbl) = true := decide_eq_true (List.mem_of_getElem? (i := 21) rfl)
set_option maxRecDepth 100000 in
theorem fl_X11_130 : fl_ok "DialDeskModel" 130 11 1 0 = true := fl_mk (RX11, TX11, 38) rfl (by decide +kernel) (List.mem_of_getElem? (i := 875) rfl)
set_option maxRecDepth 100000 in
theorem mb_X11_put : mb_ok mX11_put 9 = true := mb_mk (List.mem_of_getElem? (i := 1029) rfl) (List.mem_of_getElem? (i := 59) rfl) (by decide +kernel)
set_option maxRecDepth 100000 in
theorem ml_X11_133 : decide (Cond.methodLink "DialDeskModel" 133 yX11_put ∈ lw_tbl) = true := decide_eq_true (List.mem_of_getElem? (i := 1026) rfl)
set_option maxRecDepth 100000 in
theorem im_X11_put : decide (Cond.instanceMethod yX11_put ∈ lw_tbl) = true := decide_eq_true (List.mem_of_getElem? (i := 1028) rfl)
set_option maxRecDepth 100000 in
theorem se_X11_put : decide (Cond.selects "DialDeskModel" yX11_put yX11_put ∈ lw_tbl) = true := decide_eq_true (List.mem_of_getElem? (i := 20) rfl)
set_option maxRecDepth 100000 in
theorem fq_X11_130 : fq_ok "DialDeskModel" 130 11 1 .int false = true := fq_mk (RX11, TX11, 38) rfl (by decide +kernel) (List.mem_of_getElem? (i := 875) rfl)
set_option maxRecDepth 100000 in
theorem kl_X11_137 : decide (Cond.constantLong "DialDeskModel" 137 15 ∈ lw_tbl) = true := decide_eq_true (List.mem_of_getElem? (i := 1006) rfl)
set_option maxRecDepth 100000 in
theorem kl_X11_143 : decide (Cond.constantLong "DialDeskModel" 143 7 ∈ lw_tbl) = true := decide_eq_true (List.mem_of_getElem? (i := 1015) rfl)
set_option maxRecDepth 100000 in
theorem kl_X11_145 : decide (Cond.constantLong "DialDeskModel" 145 1023 ∈ lw_tbl) = true := decide_eq_true (List.mem_of_getElem? (i := 1016) rfl)
set_option maxRecDepth 100000 in
theorem kl_X11_147 : decide (Cond.constantLong "DialDeskModel" 147 12 ∈ lw_tbl) = true := decide_eq_true (List.mem_of_getElem? (i := 1017) rfl)
set_option maxRecDepth 100000 in
theorem mb_X11_isFree : mb_ok mX11_isFree 1 = true := mb_mk (List.mem_of_getElem? (i := 1021) rfl) (List.mem_of_getElem? (i := 59) rfl) (by decide +kernel)
set_option maxRecDepth 100000 in
theorem ml_X11_149 : decide (Cond.methodLink "DialDeskModel" 149 yX11_isFree ∈ lw_tbl) = true := decide_eq_true (List.mem_of_getElem? (i := 1018) rfl)
set_option maxRecDepth 100000 in
theorem im_X11_isFree : decide (Cond.instanceMethod yX11_isFree ∈ lw_tbl) = true := decide_eq_true (List.mem_of_getElem? (i := 1020) rfl)
set_option maxRecDepth 100000 in
theorem se_X11_isFree : decide (Cond.selects "DialDeskModel" yX11_isFree yX11_isFree ∈ lw_tbl) = true := decide_eq_true (List.mem_of_getElem? (i := 18) rfl)
set_option maxRecDepth 100000 in
theorem mb_X11_mayBlock : mb_ok mX11_mayBlock 5 = true := mb_mk (List.mem_of_getElem? (i := 1005) rfl) (List.mem_of_getElem? (i := 59) rfl) (by decide +kernel)
set_option maxRecDepth 100000 in
theorem ml_X11_153 : decide (Cond.methodLink "DialDeskModel" 153 yX11_mayBlock ∈ lw_tbl) = true := decide_eq_true (List.mem_of_getElem? (i := 1002) rfl)
set_option maxRecDepth 100000 in
theorem im_X11_mayBlock : decide (Cond.instanceMethod yX11_mayBlock ∈ lw_tbl) = true := decide_eq_true (List.mem_of_getElem? (i := 1004) rfl)
set_option maxRecDepth 100000 in
theorem se_X11_mayBlock : decide (Cond.selects "DialDeskModel" yX11_mayBlock yX11_mayBlock ∈ lw_tbl) = true := decide_eq_true (List.mem_of_getElem? (i := 17) rfl)
set_option maxRecDepth 100000 in
theorem mb_X11_add : mb_ok mX11_add 9 = true := mb_mk (List.mem_of_getElem? (i := 1025) rfl) (List.mem_of_getElem? (i := 59) rfl) (by decide +kernel)
set_option maxRecDepth 100000 in
theorem ml_X11_157 : decide (Cond.methodLink "DialDeskModel" 157 yX11_add ∈ lw_tbl) = true := decide_eq_true (List.mem_of_getElem? (i := 1022) rfl)
set_option maxRecDepth 100000 in
theorem im_X11_add : decide (Cond.instanceMethod yX11_add ∈ lw_tbl) = true := decide_eq_true (List.mem_of_getElem? (i := 1024) rfl)
set_option maxRecDepth 100000 in
theorem se_X11_add : decide (Cond.selects "DialDeskModel" yX11_add yX11_add ∈ lw_tbl) = true := decide_eq_true (List.mem_of_getElem? (i := 19) rfl)
set_option maxRecDepth 100000 in
theorem kl_X11_160 : decide (Cond.constantLong "DialDeskModel" 160 2 ∈ lw_tbl) = true := decide_eq_true (List.mem_of_getElem? (i := 1038) rfl)
set_option maxRecDepth 100000 in
theorem kl_X11_162 : decide (Cond.constantLong "DialDeskModel" 162 99 ∈ lw_tbl) = true := decide_eq_true (List.mem_of_getElem? (i := 1039) rfl)
set_option maxRecDepth 100000 in
theorem kl_X11_164 : decide (Cond.constantLong "DialDeskModel" 164 4 ∈ lw_tbl) = true := decide_eq_true (List.mem_of_getElem? (i := 1044) rfl)
set_option maxRecDepth 100000 in
theorem mb_X11_isEntry : mb_ok mX11_isEntry 1 = true := mb_mk (List.mem_of_getElem? (i := 1052) rfl) (List.mem_of_getElem? (i := 59) rfl) (by decide +kernel)
set_option maxRecDepth 100000 in
theorem ml_X11_166 : decide (Cond.methodLink "DialDeskModel" 166 yX11_isEntry ∈ lw_tbl) = true := decide_eq_true (List.mem_of_getElem? (i := 1049) rfl)
set_option maxRecDepth 100000 in
theorem im_X11_isEntry : decide (Cond.instanceMethod yX11_isEntry ∈ lw_tbl) = true := decide_eq_true (List.mem_of_getElem? (i := 1051) rfl)
set_option maxRecDepth 100000 in
theorem se_X11_isEntry : decide (Cond.selects "DialDeskModel" yX11_isEntry yX11_isEntry ∈ lw_tbl) = true := decide_eq_true (List.mem_of_getElem? (i := 22) rfl)
set_option maxRecDepth 100000 in
theorem mb_X11_mayEnd : mb_ok mX11_mayEnd 2 = true := mb_mk (List.mem_of_getElem? (i := 1056) rfl) (List.mem_of_getElem? (i := 59) rfl) (by decide +kernel)
set_option maxRecDepth 100000 in
theorem ml_X11_169 : decide (Cond.methodLink "DialDeskModel" 169 yX11_mayEnd ∈ lw_tbl) = true := decide_eq_true (List.mem_of_getElem? (i := 1053) rfl)
set_option maxRecDepth 100000 in
theorem im_X11_mayEnd : decide (Cond.instanceMethod yX11_mayEnd ∈ lw_tbl) = true := decide_eq_true (List.mem_of_getElem? (i := 1055) rfl)
set_option maxRecDepth 100000 in
theorem se_X11_mayEnd : decide (Cond.selects "DialDeskModel" yX11_mayEnd yX11_mayEnd ∈ lw_tbl) = true := decide_eq_true (List.mem_of_getElem? (i := 23) rfl)
set_option maxRecDepth 100000 in
theorem kl_X11_173 : decide (Cond.constantLong "DialDeskModel" 173 1000 ∈ lw_tbl) = true := decide_eq_true (List.mem_of_getElem? (i := 1065) rfl)
set_option maxRecDepth 100000 in
theorem mb_X11_mayChange : mb_ok mX11_mayChange 3 = true := mb_mk (List.mem_of_getElem? (i := 1064) rfl) (List.mem_of_getElem? (i := 59) rfl) (by decide +kernel)
set_option maxRecDepth 100000 in
theorem ml_X11_175 : decide (Cond.methodLink "DialDeskModel" 175 yX11_mayChange ∈ lw_tbl) = true := decide_eq_true (List.mem_of_getElem? (i := 1061) rfl)
set_option maxRecDepth 100000 in
theorem im_X11_mayChange : decide (Cond.instanceMethod yX11_mayChange ∈ lw_tbl) = true := decide_eq_true (List.mem_of_getElem? (i := 1063) rfl)
set_option maxRecDepth 100000 in
theorem se_X11_mayChange : decide (Cond.selects "DialDeskModel" yX11_mayChange yX11_mayChange ∈ lw_tbl) = true := decide_eq_true (List.mem_of_getElem? (i := 24) rfl)
set_option maxRecDepth 100000 in
theorem mb_X11_park : mb_ok mX11_park 6 = true := mb_mk (List.mem_of_getElem? (i := 1069) rfl) (List.mem_of_getElem? (i := 59) rfl) (by decide +kernel)
set_option maxRecDepth 100000 in
theorem ml_X11_179 : decide (Cond.methodLink "DialDeskModel" 179 yX11_park ∈ lw_tbl) = true := decide_eq_true (List.mem_of_getElem? (i := 1066) rfl)
set_option maxRecDepth 100000 in
theorem im_X11_park : decide (Cond.instanceMethod yX11_park ∈ lw_tbl) = true := decide_eq_true (List.mem_of_getElem? (i := 1068) rfl)
set_option maxRecDepth 100000 in
theorem se_X11_park : decide (Cond.selects "DialDeskModel" yX11_park yX11_park ∈ lw_tbl) = true := decide_eq_true (List.mem_of_getElem? (i := 25) rfl)
set_option maxRecDepth 100000 in
theorem mb_X11_figureAt : mb_ok mX11_figureAt 2 = true := mb_mk (List.mem_of_getElem? (i := 1103) rfl) (List.mem_of_getElem? (i := 59) rfl) (by decide +kernel)
set_option maxRecDepth 100000 in
theorem ml_X11_183 : decide (Cond.methodLink "DialDeskModel" 183 yX11_figureAt ∈ lw_tbl) = true := decide_eq_true (List.mem_of_getElem? (i := 1101) rfl)
set_option maxRecDepth 100000 in
theorem sc_X11_figureAt : decide (Cond.static yX11_figureAt ∈ lw_tbl) = true := decide_eq_true (List.mem_of_getElem? (i := 1102) rfl)
set_option maxRecDepth 100000 in
theorem mb_X11_may : mb_ok mX11_may 2 = true := mb_mk (List.mem_of_getElem? (i := 1100) rfl) (List.mem_of_getElem? (i := 59) rfl) (by decide +kernel)
set_option maxRecDepth 100000 in
theorem ml_X11_187 : decide (Cond.methodLink "DialDeskModel" 187 yX11_may ∈ lw_tbl) = true := decide_eq_true (List.mem_of_getElem? (i := 1097) rfl)
set_option maxRecDepth 100000 in
theorem im_X11_may : decide (Cond.instanceMethod yX11_may ∈ lw_tbl) = true := decide_eq_true (List.mem_of_getElem? (i := 1099) rfl)
set_option maxRecDepth 100000 in
theorem se_X11_may : decide (Cond.selects "DialDeskModel" yX11_may yX11_may ∈ lw_tbl) = true := decide_eq_true (List.mem_of_getElem? (i := 29) rfl)
set_option maxRecDepth 100000 in
theorem mb_X11_begins : mb_ok mX11_begins 2 = true := mb_mk (List.mem_of_getElem? (i := 1096) rfl) (List.mem_of_getElem? (i := 59) rfl) (by decide +kernel)
set_option maxRecDepth 100000 in
theorem ml_X11_191 : decide (Cond.methodLink "DialDeskModel" 191 yX11_begins ∈ lw_tbl) = true := decide_eq_true (List.mem_of_getElem? (i := 1093) rfl)
set_option maxRecDepth 100000 in
theorem im_X11_begins : decide (Cond.instanceMethod yX11_begins ∈ lw_tbl) = true := decide_eq_true (List.mem_of_getElem? (i := 1095) rfl)
set_option maxRecDepth 100000 in
theorem se_X11_begins : decide (Cond.selects "DialDeskModel" yX11_begins yX11_begins ∈ lw_tbl) = true := decide_eq_true (List.mem_of_getElem? (i := 28) rfl)
set_option maxRecDepth 100000 in
theorem mb_X11_isDay : mb_ok mX11_isDay 1 = true := mb_mk (List.mem_of_getElem? (i := 1084) rfl) (List.mem_of_getElem? (i := 59) rfl) (by decide +kernel)
set_option maxRecDepth 100000 in
theorem ml_X11_194 : decide (Cond.methodLink "DialDeskModel" 194 yX11_isDay ∈ lw_tbl) = true := decide_eq_true (List.mem_of_getElem? (i := 1082) rfl)
set_option maxRecDepth 100000 in
theorem sc_X11_isDay : decide (Cond.static yX11_isDay ∈ lw_tbl) = true := decide_eq_true (List.mem_of_getElem? (i := 1083) rfl)
set_option maxRecDepth 100000 in
theorem mb_X11_isForce : mb_ok mX11_isForce 2 = true := mb_mk (List.mem_of_getElem? (i := 1088) rfl) (List.mem_of_getElem? (i := 59) rfl) (by decide +kernel)
set_option maxRecDepth 100000 in
theorem ml_X11_197 : decide (Cond.methodLink "DialDeskModel" 197 yX11_isForce ∈ lw_tbl) = true := decide_eq_true (List.mem_of_getElem? (i := 1085) rfl)
set_option maxRecDepth 100000 in
theorem im_X11_isForce : decide (Cond.instanceMethod yX11_isForce ∈ lw_tbl) = true := decide_eq_true (List.mem_of_getElem? (i := 1087) rfl)
set_option maxRecDepth 100000 in
theorem se_X11_isForce : decide (Cond.selects "DialDeskModel" yX11_isForce yX11_isForce ∈ lw_tbl) = true := decide_eq_true (List.mem_of_getElem? (i := 26) rfl)
set_option maxRecDepth 100000 in
theorem mb_X11_isPair : mb_ok mX11_isPair 2 = true := mb_mk (List.mem_of_getElem? (i := 1092) rfl) (List.mem_of_getElem? (i := 59) rfl) (by decide +kernel)
set_option maxRecDepth 100000 in
theorem ml_X11_200 : decide (Cond.methodLink "DialDeskModel" 200 yX11_isPair ∈ lw_tbl) = true := decide_eq_true (List.mem_of_getElem? (i := 1089) rfl)
set_option maxRecDepth 100000 in
theorem im_X11_isPair : decide (Cond.instanceMethod yX11_isPair ∈ lw_tbl) = true := decide_eq_true (List.mem_of_getElem? (i := 1091) rfl)
set_option maxRecDepth 100000 in
theorem se_X11_isPair : decide (Cond.selects "DialDeskModel" yX11_isPair yX11_isPair ∈ lw_tbl) = true := decide_eq_true (List.mem_of_getElem? (i := 27) rfl)
set_option maxRecDepth 100000 in
theorem fl_X11_59 : fl_ok "DialDeskModel" 59 11 19 2 = true := fl_mk (RX11, TX11, 38) rfl (by decide +kernel) (List.mem_of_getElem? (i := 893) rfl)
set_option maxRecDepth 100000 in
theorem fl_X11_62 : fl_ok "DialDeskModel" 62 11 20 2 = true := fl_mk (RX11, TX11, 38) rfl (by decide +kernel) (List.mem_of_getElem? (i := 894) rfl)
set_option maxRecDepth 100000 in
theorem fl_X11_53 : fl_ok "DialDeskModel" 53 11 17 2 = true := fl_mk (RX11, TX11, 38) rfl (by decide +kernel) (List.mem_of_getElem? (i := 891) rfl)
set_option maxRecDepth 100000 in
theorem fl_X11_56 : fl_ok "DialDeskModel" 56 11 18 2 = true := fl_mk (RX11, TX11, 38) rfl (by decide +kernel) (List.mem_of_getElem? (i := 892) rfl)
set_option maxRecDepth 100000 in
theorem mb_X11_follow : mb_ok mX11_follow 3 = true := mb_mk (List.mem_of_getElem? (i := 1123) rfl) (List.mem_of_getElem? (i := 59) rfl) (by decide +kernel)
set_option maxRecDepth 100000 in
theorem ml_X11_203 : decide (Cond.methodLink "DialDeskModel" 203 yX11_follow ∈ lw_tbl) = true := decide_eq_true (List.mem_of_getElem? (i := 1120) rfl)
set_option maxRecDepth 100000 in
theorem im_X11_follow : decide (Cond.instanceMethod yX11_follow ∈ lw_tbl) = true := decide_eq_true (List.mem_of_getElem? (i := 1122) rfl)
set_option maxRecDepth 100000 in
theorem se_X11_follow : decide (Cond.selects "DialDeskModel" yX11_follow yX11_follow ∈ lw_tbl) = true := decide_eq_true (List.mem_of_getElem? (i := 32) rfl)
set_option maxRecDepth 100000 in
theorem fl_X11_207 : fl_ok "DialDeskModel" 207 11 16 0 = true := fl_mk (RX11, TX11, 38) rfl (by decide +kernel) (List.mem_of_getElem? (i := 890) rfl)
set_option maxRecDepth 100000 in
theorem mb_X11_blockOf : mb_ok mX11_blockOf 2 = true := mb_mk (List.mem_of_getElem? (i := 1119) rfl) (List.mem_of_getElem? (i := 59) rfl) (by decide +kernel)
set_option maxRecDepth 100000 in
theorem ml_X11_210 : decide (Cond.methodLink "DialDeskModel" 210 yX11_blockOf ∈ lw_tbl) = true := decide_eq_true (List.mem_of_getElem? (i := 1116) rfl)
set_option maxRecDepth 100000 in
theorem im_X11_blockOf : decide (Cond.instanceMethod yX11_blockOf ∈ lw_tbl) = true := decide_eq_true (List.mem_of_getElem? (i := 1118) rfl)
set_option maxRecDepth 100000 in
theorem se_X11_blockOf : decide (Cond.selects "DialDeskModel" yX11_blockOf yX11_blockOf ∈ lw_tbl) = true := decide_eq_true (List.mem_of_getElem? (i := 31) rfl)
set_option maxRecDepth 100000 in
theorem mb_X11_lineOn : mb_ok mX11_lineOn 3 = true := mb_mk (List.mem_of_getElem? (i := 1115) rfl) (List.mem_of_getElem? (i := 59) rfl) (by decide +kernel)
set_option maxRecDepth 100000 in
theorem ml_X11_213 : decide (Cond.methodLink "DialDeskModel" 213 yX11_lineOn ∈ lw_tbl) = true := decide_eq_true (List.mem_of_getElem? (i := 1112) rfl)
set_option maxRecDepth 100000 in
theorem im_X11_lineOn : decide (Cond.instanceMethod yX11_lineOn ∈ lw_tbl) = true := decide_eq_true (List.mem_of_getElem? (i := 1114) rfl)
set_option maxRecDepth 100000 in
theorem se_X11_lineOn : decide (Cond.selects "DialDeskModel" yX11_lineOn yX11_lineOn ∈ lw_tbl) = true := decide_eq_true (List.mem_of_getElem? (i := 30) rfl)
set_option maxRecDepth 100000 in
theorem fq_X11_207 : fq_ok "DialDeskModel" 207 11 16 .int false = true := fq_mk (RX11, TX11, 38) rfl (by decide +kernel) (List.mem_of_getElem? (i := 890) rfl)
set_option maxRecDepth 100000 in
theorem mb_X11_isLine : mb_ok mX11_isLine 1 = true := mb_mk (List.mem_of_getElem? (i := 1131) rfl) (List.mem_of_getElem? (i := 59) rfl) (by decide +kernel)
set_option maxRecDepth 100000 in
theorem ml_X11_216 : decide (Cond.methodLink "DialDeskModel" 216 yX11_isLine ∈ lw_tbl) = true := decide_eq_true (List.mem_of_getElem? (i := 1128) rfl)
set_option maxRecDepth 100000 in
theorem im_X11_isLine : decide (Cond.instanceMethod yX11_isLine ∈ lw_tbl) = true := decide_eq_true (List.mem_of_getElem? (i := 1130) rfl)
set_option maxRecDepth 100000 in
theorem se_X11_isLine : decide (Cond.selects "DialDeskModel" yX11_isLine yX11_isLine ∈ lw_tbl) = true := decide_eq_true (List.mem_of_getElem? (i := 33) rfl)
set_option maxRecDepth 100000 in
theorem fl_X11_219 : fl_ok "DialDeskModel" 219 11 21 0 = true := fl_mk (RX11, TX11, 38) rfl (by decide +kernel) (List.mem_of_getElem? (i := 895) rfl)
set_option maxRecDepth 100000 in
theorem fl_X11_65 : fl_ok "DialDeskModel" 65 11 22 2 = true := fl_mk (RX11, TX11, 38) rfl (by decide +kernel) (List.mem_of_getElem? (i := 896) rfl)
set_option maxRecDepth 100000 in
theorem fl_X11_68 : fl_ok "DialDeskModel" 68 11 23 2 = true := fl_mk (RX11, TX11, 38) rfl (by decide +kernel) (List.mem_of_getElem? (i := 897) rfl)
set_option maxRecDepth 100000 in
theorem fl_X11_71 : fl_ok "DialDeskModel" 71 11 24 2 = true := fl_mk (RX11, TX11, 38) rfl (by decide +kernel) (List.mem_of_getElem? (i := 898) rfl)
set_option maxRecDepth 100000 in
theorem mb_X11_carrierOf : mb_ok mX11_carrierOf 2 = true := mb_mk (List.mem_of_getElem? (i := 1139) rfl) (List.mem_of_getElem? (i := 59) rfl) (by decide +kernel)
set_option maxRecDepth 100000 in
theorem ml_X11_222 : decide (Cond.methodLink "DialDeskModel" 222 yX11_carrierOf ∈ lw_tbl) = true := decide_eq_true (List.mem_of_getElem? (i := 1136) rfl)
set_option maxRecDepth 100000 in
theorem im_X11_carrierOf : decide (Cond.instanceMethod yX11_carrierOf ∈ lw_tbl) = true := decide_eq_true (List.mem_of_getElem? (i := 1138) rfl)
set_option maxRecDepth 100000 in
theorem se_X11_carrierOf : decide (Cond.selects "DialDeskModel" yX11_carrierOf yX11_carrierOf ∈ lw_tbl) = true := decide_eq_true (List.mem_of_getElem? (i := 34) rfl)
set_option maxRecDepth 100000 in
theorem fq_X11_219 : fq_ok "DialDeskModel" 219 11 21 .int false = true := fq_mk (RX11, TX11, 38) rfl (by decide +kernel) (List.mem_of_getElem? (i := 895) rfl)
set_option maxRecDepth 100000 in
theorem kl_X11_225 : decide (Cond.constantLong "DialDeskModel" 225 (-1) ∈ lw_tbl) = true := decide_eq_true (List.mem_of_getElem? (i := 1144) rfl)
set_option maxRecDepth 100000 in
theorem mb_X11_joined : mb_ok mX11_joined 2 = true := mb_mk (List.mem_of_getElem? (i := 1147) rfl) (List.mem_of_getElem? (i := 59) rfl) (by decide +kernel)
set_option maxRecDepth 100000 in
theorem ml_X11_227 : decide (Cond.methodLink "DialDeskModel" 227 yX11_joined ∈ lw_tbl) = true := decide_eq_true (List.mem_of_getElem? (i := 1145) rfl)
set_option maxRecDepth 100000 in
theorem sc_X11_joined : decide (Cond.static yX11_joined ∈ lw_tbl) = true := decide_eq_true (List.mem_of_getElem? (i := 1146) rfl)
set_option maxRecDepth 100000 in
theorem kl_X11_231 : decide (Cond.constantLong "DialDeskModel" 231 3 ∈ lw_tbl) = true := decide_eq_true (List.mem_of_getElem? (i := 1160) rfl)
set_option maxRecDepth 100000 in
theorem mb_X11_isCall : mb_ok mX11_isCall 1 = true := mb_mk (List.mem_of_getElem? (i := 1159) rfl) (List.mem_of_getElem? (i := 59) rfl) (by decide +kernel)
set_option maxRecDepth 100000 in
theorem ml_X11_233 : decide (Cond.methodLink "DialDeskModel" 233 yX11_isCall ∈ lw_tbl) = true := decide_eq_true (List.mem_of_getElem? (i := 1156) rfl)
set_option maxRecDepth 100000 in
theorem im_X11_isCall : decide (Cond.instanceMethod yX11_isCall ∈ lw_tbl) = true := decide_eq_true (List.mem_of_getElem? (i := 1158) rfl)
set_option maxRecDepth 100000 in
theorem se_X11_isCall : decide (Cond.selects "DialDeskModel" yX11_isCall yX11_isCall ∈ lw_tbl) = true := decide_eq_true (List.mem_of_getElem? (i := 35) rfl)
set_option maxRecDepth 100000 in
theorem fl_X11_90 : fl_ok "DialDeskModel" 90 11 30 2 = true := fl_mk (RX11, TX11, 38) rfl (by decide +kernel) (List.mem_of_getElem? (i := 904) rfl)
set_option maxRecDepth 100000 in
theorem fl_X11_74 : fl_ok "DialDeskModel" 74 11 25 2 = true := fl_mk (RX11, TX11, 38) rfl (by decide +kernel) (List.mem_of_getElem? (i := 899) rfl)
set_option maxRecDepth 100000 in
theorem fl_X11_77 : fl_ok "DialDeskModel" 77 11 26 2 = true := fl_mk (RX11, TX11, 38) rfl (by decide +kernel) (List.mem_of_getElem? (i := 900) rfl)
set_option maxRecDepth 100000 in
theorem fl_X11_83 : fl_ok "DialDeskModel" 83 11 28 2 = true := fl_mk (RX11, TX11, 38) rfl (by decide +kernel) (List.mem_of_getElem? (i := 902) rfl)
set_option maxRecDepth 100000 in
theorem fl_X11_86 : fl_ok "DialDeskModel" 86 11 29 2 = true := fl_mk (RX11, TX11, 38) rfl (by decide +kernel) (List.mem_of_getElem? (i := 903) rfl)
set_option maxRecDepth 100000 in
theorem fq_X11_236 : fq_ok "DialDeskModel" 236 11 32 .int false = true := fq_mk (RX11, TX11, 38) rfl (by decide +kernel) (List.mem_of_getElem? (i := 906) rfl)
set_option maxRecDepth 100000 in
theorem fl_X11_236 : fl_ok "DialDeskModel" 236 11 32 0 = true := fl_mk (RX11, TX11, 38) rfl (by decide +kernel) (List.mem_of_getElem? (i := 906) rfl)
set_option maxRecDepth 100000 in
theorem fl_X11_93 : fl_ok "DialDeskModel" 93 11 31 2 = true := fl_mk (RX11, TX11, 38) rfl (by decide +kernel) (List.mem_of_getElem? (i := 905) rfl)
set_option maxRecDepth 100000 in
theorem fl_X11_80 : fl_ok "DialDeskModel" 80 11 27 2 = true := fl_mk (RX11, TX11, 38) rfl (by decide +kernel) (List.mem_of_getElem? (i := 901) rfl)
set_option maxRecDepth 100000 in
theorem mb_X11_isBegun : mb_ok mX11_isBegun 1 = true := mb_mk (List.mem_of_getElem? (i := 1180) rfl) (List.mem_of_getElem? (i := 59) rfl) (by decide +kernel)
set_option maxRecDepth 100000 in
theorem ml_X11_239 : decide (Cond.methodLink "DialDeskModel" 239 yX11_isBegun ∈ lw_tbl) = true := decide_eq_true (List.mem_of_getElem? (i := 1177) rfl)
set_option maxRecDepth 100000 in
theorem im_X11_isBegun : decide (Cond.instanceMethod yX11_isBegun ∈ lw_tbl) = true := decide_eq_true (List.mem_of_getElem? (i := 1179) rfl)
set_option maxRecDepth 100000 in
theorem se_X11_isBegun : decide (Cond.selects "DialDeskModel" yX11_isBegun yX11_isBegun ∈ lw_tbl) = true := decide_eq_true (List.mem_of_getElem? (i := 39) rfl)
set_option maxRecDepth 100000 in
theorem mb_X11_isNumber : mb_ok mX11_isNumber 1 = true := mb_mk (List.mem_of_getElem? (i := 1176) rfl) (List.mem_of_getElem? (i := 59) rfl) (by decide +kernel)
set_option maxRecDepth 100000 in
theorem ml_X11_242 : decide (Cond.methodLink "DialDeskModel" 242 yX11_isNumber ∈ lw_tbl) = true := decide_eq_true (List.mem_of_getElem? (i := 1173) rfl)
set_option maxRecDepth 100000 in
theorem im_X11_isNumber : decide (Cond.instanceMethod yX11_isNumber ∈ lw_tbl) = true := decide_eq_true (List.mem_of_getElem? (i := 1175) rfl)
set_option maxRecDepth 100000 in
theorem se_X11_isNumber : decide (Cond.selects "DialDeskModel" yX11_isNumber yX11_isNumber ∈ lw_tbl) = true := decide_eq_true (List.mem_of_getElem? (i := 38) rfl)
set_option maxRecDepth 100000 in
theorem mb_X11_goesOn : mb_ok mX11_goesOn 1 = true := mb_mk (List.mem_of_getElem? (i := 1184) rfl) (List.mem_of_getElem? (i := 59) rfl) (by decide +kernel)
set_option maxRecDepth 100000 in
theorem ml_X11_245 : decide (Cond.methodLink "DialDeskModel" 245 yX11_goesOn ∈ lw_tbl) = true := decide_eq_true (List.mem_of_getElem? (i := 1181) rfl)
set_option maxRecDepth 100000 in
theorem im_X11_goesOn : decide (Cond.instanceMethod yX11_goesOn ∈ lw_tbl) = true := decide_eq_true (List.mem_of_getElem? (i := 1183) rfl)
set_option maxRecDepth 100000 in
theorem se_X11_goesOn : decide (Cond.selects "DialDeskModel" yX11_goesOn yX11_goesOn ∈ lw_tbl) = true := decide_eq_true (List.mem_of_getElem? (i := 40) rfl)
set_option maxRecDepth 100000 in
theorem mb_X11_takeCall : mb_ok mX11_takeCall 1 = true := mb_mk (List.mem_of_getElem? (i := 1168) rfl) (List.mem_of_getElem? (i := 59) rfl) (by decide +kernel)
set_option maxRecDepth 100000 in
theorem ml_X11_248 : decide (Cond.methodLink "DialDeskModel" 248 yX11_takeCall ∈ lw_tbl) = true := decide_eq_true (List.mem_of_getElem? (i := 1165) rfl)
set_option maxRecDepth 100000 in
theorem im_X11_takeCall : decide (Cond.instanceMethod yX11_takeCall ∈ lw_tbl) = true := decide_eq_true (List.mem_of_getElem? (i := 1167) rfl)
set_option maxRecDepth 100000 in
theorem se_X11_takeCall : decide (Cond.selects "DialDeskModel" yX11_takeCall yX11_takeCall ∈ lw_tbl) = true := decide_eq_true (List.mem_of_getElem? (i := 36) rfl)
set_option maxRecDepth 100000 in
theorem mb_X11_answer : mb_ok mX11_answer 1 = true := mb_mk (List.mem_of_getElem? (i := 1172) rfl) (List.mem_of_getElem? (i := 59) rfl) (by decide +kernel)
set_option maxRecDepth 100000 in
theorem ml_X11_252 : decide (Cond.methodLink "DialDeskModel" 252 yX11_answer ∈ lw_tbl) = true := decide_eq_true (List.mem_of_getElem? (i := 1169) rfl)
set_option maxRecDepth 100000 in
theorem im_X11_answer : decide (Cond.instanceMethod yX11_answer ∈ lw_tbl) = true := decide_eq_true (List.mem_of_getElem? (i := 1171) rfl)
set_option maxRecDepth 100000 in
theorem se_X11_answer : decide (Cond.selects "DialDeskModel" yX11_answer yX11_answer ∈ lw_tbl) = true := decide_eq_true (List.mem_of_getElem? (i := 37) rfl)
set_option maxRecDepth 100000 in
theorem mb_X11_rank : mb_ok mX11_rank 1 = true := mb_mk (List.mem_of_getElem? (i := 1200) rfl) (List.mem_of_getElem? (i := 59) rfl) (by decide +kernel)
set_option maxRecDepth 100000 in
theorem ml_X11_255 : decide (Cond.methodLink "DialDeskModel" 255 yX11_rank ∈ lw_tbl) = true := decide_eq_true (List.mem_of_getElem? (i := 1197) rfl)
set_option maxRecDepth 100000 in
theorem im_X11_rank : decide (Cond.instanceMethod yX11_rank ∈ lw_tbl) = true := decide_eq_true (List.mem_of_getElem? (i := 1199) rfl)
set_option maxRecDepth 100000 in
theorem se_X11_rank : decide (Cond.selects "DialDeskModel" yX11_rank yX11_rank ∈ lw_tbl) = true := decide_eq_true (List.mem_of_getElem? (i := 42) rfl)
set_option maxRecDepth 100000 in
theorem mb_X11_leadsTo : mb_ok mX11_leadsTo 1 = true := mb_mk (List.mem_of_getElem? (i := 1196) rfl) (List.mem_of_getElem? (i := 59) rfl) (by decide +kernel)
set_option maxRecDepth 100000 in
theorem ml_X11_258 : decide (Cond.methodLink "DialDeskModel" 258 yX11_leadsTo ∈ lw_tbl) = true := decide_eq_true (List.mem_of_getElem? (i := 1193) rfl)
set_option maxRecDepth 100000 in
theorem im_X11_leadsTo : decide (Cond.instanceMethod yX11_leadsTo ∈ lw_tbl) = true := decide_eq_true (List.mem_of_getElem? (i := 1195) rfl)
set_option maxRecDepth 100000 in
theorem se_X11_leadsTo : decide (Cond.selects "DialDeskModel" yX11_leadsTo yX11_leadsTo ∈ lw_tbl) = true := decide_eq_true (List.mem_of_getElem? (i := 41) rfl)
set_option maxRecDepth 100000 in
theorem mb_X11_lineOf : mb_ok mX11_lineOf 2 = true := mb_mk (List.mem_of_getElem? (i := 1204) rfl) (List.mem_of_getElem? (i := 59) rfl) (by decide +kernel)
set_option maxRecDepth 100000 in
theorem ml_X11_261 : decide (Cond.methodLink "DialDeskModel" 261 yX11_lineOf ∈ lw_tbl) = true := decide_eq_true (List.mem_of_getElem? (i := 1201) rfl)
set_option maxRecDepth 100000 in
theorem im_X11_lineOf : decide (Cond.instanceMethod yX11_lineOf ∈ lw_tbl) = true := decide_eq_true (List.mem_of_getElem? (i := 1203) rfl)
set_option maxRecDepth 100000 in
theorem se_X11_lineOf : decide (Cond.selects "DialDeskModel" yX11_lineOf yX11_lineOf ∈ lw_tbl) = true := decide_eq_true (List.mem_of_getElem? (i := 43) rfl)
set_option maxRecDepth 100000 in
theorem mb_X11_behind : mb_ok mX11_behind 1 = true := mb_mk (List.mem_of_getElem? (i := 1208) rfl) (List.mem_of_getElem? (i := 59) rfl) (by decide +kernel)
set_option maxRecDepth 100000 in
theorem ml_X11_264 : decide (Cond.methodLink "DialDeskModel" 264 yX11_behind ∈ lw_tbl) = true := decide_eq_true (List.mem_of_getElem? (i := 1205) rfl)
set_option maxRecDepth 100000 in
theorem im_X11_behind : decide (Cond.instanceMethod yX11_behind ∈ lw_tbl) = true := decide_eq_true (List.mem_of_getElem? (i := 1207) rfl)
set_option maxRecDepth 100000 in
theorem se_X11_behind : decide (Cond.selects "DialDeskModel" yX11_behind yX11_behind ∈ lw_tbl) = true := decide_eq_true (List.mem_of_getElem? (i := 44) rfl)
set_option maxRecDepth 100000 in
theorem mb_X11_toCome : mb_ok mX11_toCome 2 = true := mb_mk (List.mem_of_getElem? (i := 1212) rfl) (List.mem_of_getElem? (i := 59) rfl) (by decide +kernel)
set_option maxRecDepth 100000 in
theorem ml_X11_267 : decide (Cond.methodLink "DialDeskModel" 267 yX11_toCome ∈ lw_tbl) = true := decide_eq_true (List.mem_of_getElem? (i := 1209) rfl)
set_option maxRecDepth 100000 in
theorem im_X11_toCome : decide (Cond.instanceMethod yX11_toCome ∈ lw_tbl) = true := decide_eq_true (List.mem_of_getElem? (i := 1211) rfl)
set_option maxRecDepth 100000 in
theorem se_X11_toCome : decide (Cond.selects "DialDeskModel" yX11_toCome yX11_toCome ∈ lw_tbl) = true := decide_eq_true (List.mem_of_getElem? (i := 45) rfl)
set_option maxRecDepth 100000 in
theorem mb_X11_takeNumber : mb_ok mX11_takeNumber 1 = true := mb_mk (List.mem_of_getElem? (i := 1220) rfl) (List.mem_of_getElem? (i := 59) rfl) (by decide +kernel)
set_option maxRecDepth 100000 in
theorem ml_X11_271 : decide (Cond.methodLink "DialDeskModel" 271 yX11_takeNumber ∈ lw_tbl) = true := decide_eq_true (List.mem_of_getElem? (i := 1217) rfl)
set_option maxRecDepth 100000 in
theorem im_X11_takeNumber : decide (Cond.instanceMethod yX11_takeNumber ∈ lw_tbl) = true := decide_eq_true (List.mem_of_getElem? (i := 1219) rfl)
set_option maxRecDepth 100000 in
theorem se_X11_takeNumber : decide (Cond.selects "DialDeskModel" yX11_takeNumber yX11_takeNumber ∈ lw_tbl) = true := decide_eq_true (List.mem_of_getElem? (i := 46) rfl)
set_option maxRecDepth 100000 in
theorem kl_X11_275 : decide (Cond.constantLong "DialDeskModel" 275 1000000000 ∈ lw_tbl) = true := decide_eq_true (List.mem_of_getElem? (i := 1225) rfl)
set_option maxRecDepth 100000 in
theorem kl_X11_277 : decide (Cond.constantLong "DialDeskModel" 277 1000000 ∈ lw_tbl) = true := decide_eq_true (List.mem_of_getElem? (i := 1226) rfl)
set_option maxRecDepth 100000 in
theorem fl_X11_96 : fl_ok "DialDeskModel" 96 11 33 2 = true := fl_mk (RX11, TX11, 38) rfl (by decide +kernel) (List.mem_of_getElem? (i := 907) rfl)
set_option maxRecDepth 100000 in
theorem fl_X11_99 : fl_ok "DialDeskModel" 99 11 34 2 = true := fl_mk (RX11, TX11, 38) rfl (by decide +kernel) (List.mem_of_getElem? (i := 908) rfl)
set_option maxRecDepth 100000 in
theorem kl_X11_283 : decide (Cond.constantLong "DialDeskModel" 283 (-2) ∈ lw_tbl) = true := decide_eq_true (List.mem_of_getElem? (i := 1235) rfl)
set_option maxRecDepth 100000 in
theorem mb_X11_roomAt : mb_ok mX11_roomAt 2 = true := mb_mk (List.mem_of_getElem? (i := 1234) rfl) (List.mem_of_getElem? (i := 59) rfl) (by decide +kernel)
set_option maxRecDepth 100000 in
theorem ml_X11_279 : decide (Cond.methodLink "DialDeskModel" 279 yX11_roomAt ∈ lw_tbl) = true := decide_eq_true (List.mem_of_getElem? (i := 1231) rfl)
set_option maxRecDepth 100000 in
theorem im_X11_roomAt : decide (Cond.instanceMethod yX11_roomAt ∈ lw_tbl) = true := decide_eq_true (List.mem_of_getElem? (i := 1233) rfl)
set_option maxRecDepth 100000 in
theorem se_X11_roomAt : decide (Cond.selects "DialDeskModel" yX11_roomAt yX11_roomAt ∈ lw_tbl) = true := decide_eq_true (List.mem_of_getElem? (i := 47) rfl)
set_option maxRecDepth 100000 in
theorem fl_X11_105 : fl_ok "DialDeskModel" 105 11 37 2 = true := fl_mk (RX11, TX11, 38) rfl (by decide +kernel) (List.mem_of_getElem? (i := 911) rfl)
set_option maxRecDepth 100000 in
theorem fl_X11_285 : fl_ok "DialDeskModel" 285 11 35 0 = true := fl_mk (RX11, TX11, 38) rfl (by decide +kernel) (List.mem_of_getElem? (i := 909) rfl)
set_option maxRecDepth 100000 in
theorem mb_X11_makeBase : mb_ok mX11_makeBase 1 = true := mb_mk (List.mem_of_getElem? (i := 1243) rfl) (List.mem_of_getElem? (i := 59) rfl) (by decide +kernel)
set_option maxRecDepth 100000 in
theorem ml_X11_288 : decide (Cond.methodLink "DialDeskModel" 288 yX11_makeBase ∈ lw_tbl) = true := decide_eq_true (List.mem_of_getElem? (i := 1240) rfl)
set_option maxRecDepth 100000 in
theorem im_X11_makeBase : decide (Cond.instanceMethod yX11_makeBase ∈ lw_tbl) = true := decide_eq_true (List.mem_of_getElem? (i := 1242) rfl)
set_option maxRecDepth 100000 in
theorem se_X11_makeBase : decide (Cond.selects "DialDeskModel" yX11_makeBase yX11_makeBase ∈ lw_tbl) = true := decide_eq_true (List.mem_of_getElem? (i := 48) rfl)
set_option maxRecDepth 100000 in
theorem mb_X11_shortageWith : mb_ok mX11_shortageWith 2 = true := mb_mk (List.mem_of_getElem? (i := 1247) rfl) (List.mem_of_getElem? (i := 59) rfl) (by decide +kernel)
set_option maxRecDepth 100000 in
theorem ml_X11_291 : decide (Cond.methodLink "DialDeskModel" 291 yX11_shortageWith ∈ lw_tbl) = true := decide_eq_true (List.mem_of_getElem? (i := 1244) rfl)
set_option maxRecDepth 100000 in
theorem im_X11_shortageWith : decide (Cond.instanceMethod yX11_shortageWith ∈ lw_tbl) = true := decide_eq_true (List.mem_of_getElem? (i := 1246) rfl)
set_option maxRecDepth 100000 in
theorem se_X11_shortageWith : decide (Cond.selects "DialDeskModel" yX11_shortageWith yX11_shortageWith ∈ lw_tbl) = true := decide_eq_true (List.mem_of_getElem? (i := 49) rfl)
set_option maxRecDepth 100000 in
theorem fl_X11_102 : fl_ok "DialDeskModel" 102 11 36 2 = true := fl_mk (RX11, TX11, 38) rfl (by decide +kernel) (List.mem_of_getElem? (i := 910) rfl)
set_option maxRecDepth 100000 in
theorem fq_X11_285 : fq_ok "DialDeskModel" 285 11 35 .int false = true := fq_mk (RX11, TX11, 38) rfl (by decide +kernel) (List.mem_of_getElem? (i := 909) rfl)
set_option maxRecDepth 100000 in
theorem kl_X11_294 : decide (Cond.constantLong "DialDeskModel" 294 2000 ∈ lw_tbl) = true := decide_eq_true (List.mem_of_getElem? (i := 1256) rfl)
set_option maxRecDepth 100000 in
theorem mb_X11_mayAll : mb_ok mX11_mayAll 1 = true := mb_mk (List.mem_of_getElem? (i := 1260) rfl) (List.mem_of_getElem? (i := 59) rfl) (by decide +kernel)
set_option maxRecDepth 100000 in
theorem ml_X11_296 : decide (Cond.methodLink "DialDeskModel" 296 yX11_mayAll ∈ lw_tbl) = true := decide_eq_true (List.mem_of_getElem? (i := 1257) rfl)
set_option maxRecDepth 100000 in
theorem im_X11_mayAll : decide (Cond.instanceMethod yX11_mayAll ∈ lw_tbl) = true := decide_eq_true (List.mem_of_getElem? (i := 1259) rfl)
set_option maxRecDepth 100000 in
theorem se_X11_mayAll : decide (Cond.selects "DialDeskModel" yX11_mayAll yX11_mayAll ∈ lw_tbl) = true := decide_eq_true (List.mem_of_getElem? (i := 50) rfl)
theorem nw_10 : ∀ j, j < nf_ 10 → defaultValue ((parseFieldDescriptor (((RX10, TX10, 5) : vw_C).2.1 j).2.2.1).getD .int) = if kd_ 10 j = 0 then .int 0 else if kd_ 10 j = 1 then .long 0 else .null := by decide +kernel
theorem it_10 : decide (Cond.instantiable "DialDesk" 5 ∈ lw_tbl) = true := by decide +kernel
theorem iz_10 : decide (Cond.initialized "DialDesk" ∈ lw_tbl) = true := by decide +kernel
set_option maxRecDepth 100000 in
theorem cl_L_7 : decide (Cond.classLink "DialDeskLaw" 7 "DialDesk" ∈ lw_tbl) = true := decide_eq_true (List.mem_of_getElem? (i := 67) rfl)
set_option maxRecDepth 100000 in
theorem mb_X10_init : mb_ok mX10_init 0 = true := mb_mk (List.mem_of_getElem? (i := 71) rfl) (List.mem_of_getElem? (i := 52) rfl) (by decide +kernel)
set_option maxRecDepth 100000 in
theorem ml_L_9 : decide (Cond.methodLink "DialDeskLaw" 9 yX10_init ∈ lw_tbl) = true := decide_eq_true (List.mem_of_getElem? (i := 69) rfl)
set_option maxRecDepth 100000 in
theorem im_X10_init : decide (Cond.instanceMethod yX10_init ∈ lw_tbl) = true := decide_eq_true (List.mem_of_getElem? (i := 70) rfl)
theorem nw_11 : ∀ j, j < nf_ 11 → defaultValue ((parseFieldDescriptor (((RX11, TX11, 38) : vw_C).2.1 j).2.2.1).getD .int) = if kd_ 11 j = 0 then .int 0 else if kd_ 11 j = 1 then .long 0 else .null := by decide +kernel
theorem it_11 : decide (Cond.instantiable "DialDeskModel" 38 ∈ lw_tbl) = true := by decide +kernel
theorem iz_11 : decide (Cond.initialized "DialDeskModel" ∈ lw_tbl) = true := by decide +kernel
set_option maxRecDepth 100000 in
theorem cl_L_10 : decide (Cond.classLink "DialDeskLaw" 10 "DialDeskModel" ∈ lw_tbl) = true := decide_eq_true (List.mem_of_getElem? (i := 868) rfl)
set_option maxRecDepth 100000 in
theorem mb_X11_init : mb_ok mX11_init 0 = true := mb_mk (List.mem_of_getElem? (i := 872) rfl) (List.mem_of_getElem? (i := 59) rfl) (by decide +kernel)
set_option maxRecDepth 100000 in
theorem ml_L_12 : decide (Cond.methodLink "DialDeskLaw" 12 yX11_init ∈ lw_tbl) = true := decide_eq_true (List.mem_of_getElem? (i := 870) rfl)
set_option maxRecDepth 100000 in
theorem im_X11_init : decide (Cond.instanceMethod yX11_init ∈ lw_tbl) = true := decide_eq_true (List.mem_of_getElem? (i := 871) rfl)
set_option maxRecDepth 100000 in
theorem mb_X10_now : mb_ok mX10_now 1 = true := mb_mk (List.mem_of_getElem? (i := 245) rfl) (List.mem_of_getElem? (i := 52) rfl) (by decide +kernel)
set_option maxRecDepth 100000 in
theorem ml_L_13 : decide (Cond.methodLink "DialDeskLaw" 13 yX10_now ∈ lw_tbl) = true := decide_eq_true (List.mem_of_getElem? (i := 242) rfl)
set_option maxRecDepth 100000 in
theorem im_X10_now : decide (Cond.instanceMethod yX10_now ∈ lw_tbl) = true := decide_eq_true (List.mem_of_getElem? (i := 243) rfl)
set_option maxRecDepth 100000 in
theorem se_X10_now : decide (Cond.selects "DialDesk" yX10_now yX10_now ∈ lw_tbl) = true := decide_eq_true (List.mem_of_getElem? (i := 244) rfl)
set_option maxRecDepth 100000 in
theorem mb_X11_now : mb_ok mX11_now 1 = true := mb_mk (List.mem_of_getElem? (i := 993) rfl) (List.mem_of_getElem? (i := 59) rfl) (by decide +kernel)
set_option maxRecDepth 100000 in
theorem ml_L_17 : decide (Cond.methodLink "DialDeskLaw" 17 yX11_now ∈ lw_tbl) = true := decide_eq_true (List.mem_of_getElem? (i := 990) rfl)
set_option maxRecDepth 100000 in
theorem im_X11_now : decide (Cond.instanceMethod yX11_now ∈ lw_tbl) = true := decide_eq_true (List.mem_of_getElem? (i := 991) rfl)
set_option maxRecDepth 100000 in
theorem se_X11_now : decide (Cond.selects "DialDeskModel" yX11_now yX11_now ∈ lw_tbl) = true := decide_eq_true (List.mem_of_getElem? (i := 992) rfl)
set_option maxRecDepth 100000 in
theorem mb_X10_block : mb_ok mX10_block 5 = true := mb_mk (List.mem_of_getElem? (i := 256) rfl) (List.mem_of_getElem? (i := 52) rfl) (by decide +kernel)
set_option maxRecDepth 100000 in
theorem ml_L_18 : decide (Cond.methodLink "DialDeskLaw" 18 yX10_block ∈ lw_tbl) = true := decide_eq_true (List.mem_of_getElem? (i := 253) rfl)
set_option maxRecDepth 100000 in
theorem im_X10_block : decide (Cond.instanceMethod yX10_block ∈ lw_tbl) = true := decide_eq_true (List.mem_of_getElem? (i := 254) rfl)
set_option maxRecDepth 100000 in
theorem se_X10_block : decide (Cond.selects "DialDesk" yX10_block yX10_block ∈ lw_tbl) = true := decide_eq_true (List.mem_of_getElem? (i := 255) rfl)
set_option maxRecDepth 100000 in
theorem mb_X11_block : mb_ok mX11_block 5 = true := mb_mk (List.mem_of_getElem? (i := 1001) rfl) (List.mem_of_getElem? (i := 59) rfl) (by decide +kernel)
set_option maxRecDepth 100000 in
theorem ml_L_22 : decide (Cond.methodLink "DialDeskLaw" 22 yX11_block ∈ lw_tbl) = true := decide_eq_true (List.mem_of_getElem? (i := 998) rfl)
set_option maxRecDepth 100000 in
theorem im_X11_block : decide (Cond.instanceMethod yX11_block ∈ lw_tbl) = true := decide_eq_true (List.mem_of_getElem? (i := 999) rfl)
set_option maxRecDepth 100000 in
theorem se_X11_block : decide (Cond.selects "DialDeskModel" yX11_block yX11_block ∈ lw_tbl) = true := decide_eq_true (List.mem_of_getElem? (i := 1000) rfl)
set_option maxRecDepth 100000 in
theorem mb_X10_service : mb_ok mX10_service 3 = true := mb_mk (List.mem_of_getElem? (i := 394) rfl) (List.mem_of_getElem? (i := 52) rfl) (by decide +kernel)
set_option maxRecDepth 100000 in
theorem ml_L_23 : decide (Cond.methodLink "DialDeskLaw" 23 yX10_service ∈ lw_tbl) = true := decide_eq_true (List.mem_of_getElem? (i := 391) rfl)
set_option maxRecDepth 100000 in
theorem im_X10_service : decide (Cond.instanceMethod yX10_service ∈ lw_tbl) = true := decide_eq_true (List.mem_of_getElem? (i := 392) rfl)
set_option maxRecDepth 100000 in
theorem se_X10_service : decide (Cond.selects "DialDesk" yX10_service yX10_service ∈ lw_tbl) = true := decide_eq_true (List.mem_of_getElem? (i := 393) rfl)
set_option maxRecDepth 100000 in
theorem mb_X11_service : mb_ok mX11_service 3 = true := mb_mk (List.mem_of_getElem? (i := 1037) rfl) (List.mem_of_getElem? (i := 59) rfl) (by decide +kernel)
set_option maxRecDepth 100000 in
theorem ml_L_27 : decide (Cond.methodLink "DialDeskLaw" 27 yX11_service ∈ lw_tbl) = true := decide_eq_true (List.mem_of_getElem? (i := 1034) rfl)
set_option maxRecDepth 100000 in
theorem im_X11_service : decide (Cond.instanceMethod yX11_service ∈ lw_tbl) = true := decide_eq_true (List.mem_of_getElem? (i := 1035) rfl)
set_option maxRecDepth 100000 in
theorem se_X11_service : decide (Cond.selects "DialDeskModel" yX11_service yX11_service ∈ lw_tbl) = true := decide_eq_true (List.mem_of_getElem? (i := 1036) rfl)
set_option maxRecDepth 100000 in
theorem mb_X10_foreign : mb_ok mX10_foreign 4 = true := mb_mk (List.mem_of_getElem? (i := 398) rfl) (List.mem_of_getElem? (i := 52) rfl) (by decide +kernel)
set_option maxRecDepth 100000 in
theorem ml_L_28 : decide (Cond.methodLink "DialDeskLaw" 28 yX10_foreign ∈ lw_tbl) = true := decide_eq_true (List.mem_of_getElem? (i := 395) rfl)
set_option maxRecDepth 100000 in
theorem im_X10_foreign : decide (Cond.instanceMethod yX10_foreign ∈ lw_tbl) = true := decide_eq_true (List.mem_of_getElem? (i := 396) rfl)
set_option maxRecDepth 100000 in
theorem se_X10_foreign : decide (Cond.selects "DialDesk" yX10_foreign yX10_foreign ∈ lw_tbl) = true := decide_eq_true (List.mem_of_getElem? (i := 397) rfl)
set_option maxRecDepth 100000 in
theorem mb_X11_foreign : mb_ok mX11_foreign 4 = true := mb_mk (List.mem_of_getElem? (i := 1043) rfl) (List.mem_of_getElem? (i := 59) rfl) (by decide +kernel)
set_option maxRecDepth 100000 in
theorem ml_L_32 : decide (Cond.methodLink "DialDeskLaw" 32 yX11_foreign ∈ lw_tbl) = true := decide_eq_true (List.mem_of_getElem? (i := 1040) rfl)
set_option maxRecDepth 100000 in
theorem im_X11_foreign : decide (Cond.instanceMethod yX11_foreign ∈ lw_tbl) = true := decide_eq_true (List.mem_of_getElem? (i := 1041) rfl)
set_option maxRecDepth 100000 in
theorem se_X11_foreign : decide (Cond.selects "DialDeskModel" yX11_foreign yX11_foreign ∈ lw_tbl) = true := decide_eq_true (List.mem_of_getElem? (i := 1042) rfl)
set_option maxRecDepth 100000 in
theorem mb_X10_finish : mb_ok mX10_finish 2 = true := mb_mk (List.mem_of_getElem? (i := 402) rfl) (List.mem_of_getElem? (i := 52) rfl) (by decide +kernel)
set_option maxRecDepth 100000 in
theorem ml_L_33 : decide (Cond.methodLink "DialDeskLaw" 33 yX10_finish ∈ lw_tbl) = true := decide_eq_true (List.mem_of_getElem? (i := 399) rfl)
set_option maxRecDepth 100000 in
theorem im_X10_finish : decide (Cond.instanceMethod yX10_finish ∈ lw_tbl) = true := decide_eq_true (List.mem_of_getElem? (i := 400) rfl)
set_option maxRecDepth 100000 in
theorem se_X10_finish : decide (Cond.selects "DialDesk" yX10_finish yX10_finish ∈ lw_tbl) = true := decide_eq_true (List.mem_of_getElem? (i := 401) rfl)
set_option maxRecDepth 100000 in
theorem mb_X11_finish : mb_ok mX11_finish 2 = true := mb_mk (List.mem_of_getElem? (i := 1048) rfl) (List.mem_of_getElem? (i := 59) rfl) (by decide +kernel)
set_option maxRecDepth 100000 in
theorem ml_L_37 : decide (Cond.methodLink "DialDeskLaw" 37 yX11_finish ∈ lw_tbl) = true := decide_eq_true (List.mem_of_getElem? (i := 1045) rfl)
set_option maxRecDepth 100000 in
theorem im_X11_finish : decide (Cond.instanceMethod yX11_finish ∈ lw_tbl) = true := decide_eq_true (List.mem_of_getElem? (i := 1046) rfl)
set_option maxRecDepth 100000 in
theorem se_X11_finish : decide (Cond.selects "DialDeskModel" yX11_finish yX11_finish ∈ lw_tbl) = true := decide_eq_true (List.mem_of_getElem? (i := 1047) rfl)
set_option maxRecDepth 100000 in
theorem mb_X10_split : mb_ok mX10_split 6 = true := mb_mk (List.mem_of_getElem? (i := 411) rfl) (List.mem_of_getElem? (i := 52) rfl) (by decide +kernel)
set_option maxRecDepth 100000 in
theorem ml_L_38 : decide (Cond.methodLink "DialDeskLaw" 38 yX10_split ∈ lw_tbl) = true := decide_eq_true (List.mem_of_getElem? (i := 408) rfl)
set_option maxRecDepth 100000 in
theorem im_X10_split : decide (Cond.instanceMethod yX10_split ∈ lw_tbl) = true := decide_eq_true (List.mem_of_getElem? (i := 409) rfl)
set_option maxRecDepth 100000 in
theorem se_X10_split : decide (Cond.selects "DialDesk" yX10_split yX10_split ∈ lw_tbl) = true := decide_eq_true (List.mem_of_getElem? (i := 410) rfl)
set_option maxRecDepth 100000 in
theorem mb_X11_split : mb_ok mX11_split 6 = true := mb_mk (List.mem_of_getElem? (i := 1060) rfl) (List.mem_of_getElem? (i := 59) rfl) (by decide +kernel)
set_option maxRecDepth 100000 in
theorem ml_L_42 : decide (Cond.methodLink "DialDeskLaw" 42 yX11_split ∈ lw_tbl) = true := decide_eq_true (List.mem_of_getElem? (i := 1057) rfl)
set_option maxRecDepth 100000 in
theorem im_X11_split : decide (Cond.instanceMethod yX11_split ∈ lw_tbl) = true := decide_eq_true (List.mem_of_getElem? (i := 1058) rfl)
set_option maxRecDepth 100000 in
theorem se_X11_split : decide (Cond.selects "DialDeskModel" yX11_split yX11_split ∈ lw_tbl) = true := decide_eq_true (List.mem_of_getElem? (i := 1059) rfl)
set_option maxRecDepth 100000 in
theorem mb_X10_lengthen : mb_ok mX10_lengthen 4 = true := mb_mk (List.mem_of_getElem? (i := 440) rfl) (List.mem_of_getElem? (i := 52) rfl) (by decide +kernel)
set_option maxRecDepth 100000 in
theorem ml_L_43 : decide (Cond.methodLink "DialDeskLaw" 43 yX10_lengthen ∈ lw_tbl) = true := decide_eq_true (List.mem_of_getElem? (i := 437) rfl)
set_option maxRecDepth 100000 in
theorem im_X10_lengthen : decide (Cond.instanceMethod yX10_lengthen ∈ lw_tbl) = true := decide_eq_true (List.mem_of_getElem? (i := 438) rfl)
set_option maxRecDepth 100000 in
theorem se_X10_lengthen : decide (Cond.selects "DialDesk" yX10_lengthen yX10_lengthen ∈ lw_tbl) = true := decide_eq_true (List.mem_of_getElem? (i := 439) rfl)
set_option maxRecDepth 100000 in
theorem mb_X11_lengthen : mb_ok mX11_lengthen 4 = true := mb_mk (List.mem_of_getElem? (i := 1073) rfl) (List.mem_of_getElem? (i := 59) rfl) (by decide +kernel)
set_option maxRecDepth 100000 in
theorem ml_L_46 : decide (Cond.methodLink "DialDeskLaw" 46 yX11_lengthen ∈ lw_tbl) = true := decide_eq_true (List.mem_of_getElem? (i := 1070) rfl)
set_option maxRecDepth 100000 in
theorem im_X11_lengthen : decide (Cond.instanceMethod yX11_lengthen ∈ lw_tbl) = true := decide_eq_true (List.mem_of_getElem? (i := 1071) rfl)
set_option maxRecDepth 100000 in
theorem se_X11_lengthen : decide (Cond.selects "DialDeskModel" yX11_lengthen yX11_lengthen ∈ lw_tbl) = true := decide_eq_true (List.mem_of_getElem? (i := 1072) rfl)
set_option maxRecDepth 100000 in
theorem mb_X10_entry : mb_ok mX10_entry 2 = true := mb_mk (List.mem_of_getElem? (i := 444) rfl) (List.mem_of_getElem? (i := 52) rfl) (by decide +kernel)
set_option maxRecDepth 100000 in
theorem ml_L_47 : decide (Cond.methodLink "DialDeskLaw" 47 yX10_entry ∈ lw_tbl) = true := decide_eq_true (List.mem_of_getElem? (i := 441) rfl)
set_option maxRecDepth 100000 in
theorem im_X10_entry : decide (Cond.instanceMethod yX10_entry ∈ lw_tbl) = true := decide_eq_true (List.mem_of_getElem? (i := 442) rfl)
set_option maxRecDepth 100000 in
theorem se_X10_entry : decide (Cond.selects "DialDesk" yX10_entry yX10_entry ∈ lw_tbl) = true := decide_eq_true (List.mem_of_getElem? (i := 443) rfl)
set_option maxRecDepth 100000 in
theorem mb_X11_entry : mb_ok mX11_entry 2 = true := mb_mk (List.mem_of_getElem? (i := 1077) rfl) (List.mem_of_getElem? (i := 59) rfl) (by decide +kernel)
set_option maxRecDepth 100000 in
theorem ml_L_50 : decide (Cond.methodLink "DialDeskLaw" 50 yX11_entry ∈ lw_tbl) = true := decide_eq_true (List.mem_of_getElem? (i := 1074) rfl)
set_option maxRecDepth 100000 in
theorem im_X11_entry : decide (Cond.instanceMethod yX11_entry ∈ lw_tbl) = true := decide_eq_true (List.mem_of_getElem? (i := 1075) rfl)
set_option maxRecDepth 100000 in
theorem se_X11_entry : decide (Cond.selects "DialDeskModel" yX11_entry yX11_entry ∈ lw_tbl) = true := decide_eq_true (List.mem_of_getElem? (i := 1076) rfl)
set_option maxRecDepth 100000 in
theorem mb_X10_pairs : mb_ok mX10_pairs 1 = true := mb_mk (List.mem_of_getElem? (i := 452) rfl) (List.mem_of_getElem? (i := 52) rfl) (by decide +kernel)
set_option maxRecDepth 100000 in
theorem ml_L_51 : decide (Cond.methodLink "DialDeskLaw" 51 yX10_pairs ∈ lw_tbl) = true := decide_eq_true (List.mem_of_getElem? (i := 449) rfl)
set_option maxRecDepth 100000 in
theorem im_X10_pairs : decide (Cond.instanceMethod yX10_pairs ∈ lw_tbl) = true := decide_eq_true (List.mem_of_getElem? (i := 450) rfl)
set_option maxRecDepth 100000 in
theorem se_X10_pairs : decide (Cond.selects "DialDesk" yX10_pairs yX10_pairs ∈ lw_tbl) = true := decide_eq_true (List.mem_of_getElem? (i := 451) rfl)
set_option maxRecDepth 100000 in
theorem mb_X11_pairs : mb_ok mX11_pairs 1 = true := mb_mk (List.mem_of_getElem? (i := 1081) rfl) (List.mem_of_getElem? (i := 59) rfl) (by decide +kernel)
set_option maxRecDepth 100000 in
theorem ml_L_54 : decide (Cond.methodLink "DialDeskLaw" 54 yX11_pairs ∈ lw_tbl) = true := decide_eq_true (List.mem_of_getElem? (i := 1078) rfl)
set_option maxRecDepth 100000 in
theorem im_X11_pairs : decide (Cond.instanceMethod yX11_pairs ∈ lw_tbl) = true := decide_eq_true (List.mem_of_getElem? (i := 1079) rfl)
set_option maxRecDepth 100000 in
theorem se_X11_pairs : decide (Cond.selects "DialDeskModel" yX11_pairs yX11_pairs ∈ lw_tbl) = true := decide_eq_true (List.mem_of_getElem? (i := 1080) rfl)
set_option maxRecDepth 100000 in
theorem mb_X10_pair : mb_ok mX10_pair 3 = true := mb_mk (List.mem_of_getElem? (i := 481) rfl) (List.mem_of_getElem? (i := 52) rfl) (by decide +kernel)
set_option maxRecDepth 100000 in
theorem ml_L_55 : decide (Cond.methodLink "DialDeskLaw" 55 yX10_pair ∈ lw_tbl) = true := decide_eq_true (List.mem_of_getElem? (i := 478) rfl)
set_option maxRecDepth 100000 in
theorem im_X10_pair : decide (Cond.instanceMethod yX10_pair ∈ lw_tbl) = true := decide_eq_true (List.mem_of_getElem? (i := 479) rfl)
set_option maxRecDepth 100000 in
theorem se_X10_pair : decide (Cond.selects "DialDesk" yX10_pair yX10_pair ∈ lw_tbl) = true := decide_eq_true (List.mem_of_getElem? (i := 480) rfl)
set_option maxRecDepth 100000 in
theorem mb_X11_pair : mb_ok mX11_pair 3 = true := mb_mk (List.mem_of_getElem? (i := 1107) rfl) (List.mem_of_getElem? (i := 59) rfl) (by decide +kernel)
set_option maxRecDepth 100000 in
theorem ml_L_58 : decide (Cond.methodLink "DialDeskLaw" 58 yX11_pair ∈ lw_tbl) = true := decide_eq_true (List.mem_of_getElem? (i := 1104) rfl)
set_option maxRecDepth 100000 in
theorem im_X11_pair : decide (Cond.instanceMethod yX11_pair ∈ lw_tbl) = true := decide_eq_true (List.mem_of_getElem? (i := 1105) rfl)
set_option maxRecDepth 100000 in
theorem se_X11_pair : decide (Cond.selects "DialDeskModel" yX11_pair yX11_pair ∈ lw_tbl) = true := decide_eq_true (List.mem_of_getElem? (i := 1106) rfl)
set_option maxRecDepth 100000 in
theorem mb_X10_line : mb_ok mX10_line 2 = true := mb_mk (List.mem_of_getElem? (i := 497) rfl) (List.mem_of_getElem? (i := 52) rfl) (by decide +kernel)
set_option maxRecDepth 100000 in
theorem ml_L_59 : decide (Cond.methodLink "DialDeskLaw" 59 yX10_line ∈ lw_tbl) = true := decide_eq_true (List.mem_of_getElem? (i := 494) rfl)
set_option maxRecDepth 100000 in
theorem im_X10_line : decide (Cond.instanceMethod yX10_line ∈ lw_tbl) = true := decide_eq_true (List.mem_of_getElem? (i := 495) rfl)
set_option maxRecDepth 100000 in
theorem se_X10_line : decide (Cond.selects "DialDesk" yX10_line yX10_line ∈ lw_tbl) = true := decide_eq_true (List.mem_of_getElem? (i := 496) rfl)
set_option maxRecDepth 100000 in
theorem mb_X11_line : mb_ok mX11_line 2 = true := mb_mk (List.mem_of_getElem? (i := 1111) rfl) (List.mem_of_getElem? (i := 59) rfl) (by decide +kernel)
set_option maxRecDepth 100000 in
theorem ml_L_62 : decide (Cond.methodLink "DialDeskLaw" 62 yX11_line ∈ lw_tbl) = true := decide_eq_true (List.mem_of_getElem? (i := 1108) rfl)
set_option maxRecDepth 100000 in
theorem im_X11_line : decide (Cond.instanceMethod yX11_line ∈ lw_tbl) = true := decide_eq_true (List.mem_of_getElem? (i := 1109) rfl)
set_option maxRecDepth 100000 in
theorem se_X11_line : decide (Cond.selects "DialDeskModel" yX11_line yX11_line ∈ lw_tbl) = true := decide_eq_true (List.mem_of_getElem? (i := 1110) rfl)
set_option maxRecDepth 100000 in
theorem mb_X10_drop : mb_ok mX10_drop 1 = true := mb_mk (List.mem_of_getElem? (i := 561) rfl) (List.mem_of_getElem? (i := 52) rfl) (by decide +kernel)
set_option maxRecDepth 100000 in
theorem ml_L_63 : decide (Cond.methodLink "DialDeskLaw" 63 yX10_drop ∈ lw_tbl) = true := decide_eq_true (List.mem_of_getElem? (i := 558) rfl)
set_option maxRecDepth 100000 in
theorem im_X10_drop : decide (Cond.instanceMethod yX10_drop ∈ lw_tbl) = true := decide_eq_true (List.mem_of_getElem? (i := 559) rfl)
set_option maxRecDepth 100000 in
theorem se_X10_drop : decide (Cond.selects "DialDesk" yX10_drop yX10_drop ∈ lw_tbl) = true := decide_eq_true (List.mem_of_getElem? (i := 560) rfl)
set_option maxRecDepth 100000 in
theorem mb_X11_drop : mb_ok mX11_drop 1 = true := mb_mk (List.mem_of_getElem? (i := 1127) rfl) (List.mem_of_getElem? (i := 59) rfl) (by decide +kernel)
set_option maxRecDepth 100000 in
theorem ml_L_66 : decide (Cond.methodLink "DialDeskLaw" 66 yX11_drop ∈ lw_tbl) = true := decide_eq_true (List.mem_of_getElem? (i := 1124) rfl)
set_option maxRecDepth 100000 in
theorem im_X11_drop : decide (Cond.instanceMethod yX11_drop ∈ lw_tbl) = true := decide_eq_true (List.mem_of_getElem? (i := 1125) rfl)
set_option maxRecDepth 100000 in
theorem se_X11_drop : decide (Cond.selects "DialDeskModel" yX11_drop yX11_drop ∈ lw_tbl) = true := decide_eq_true (List.mem_of_getElem? (i := 1126) rfl)
set_option maxRecDepth 100000 in
theorem mb_X10_port : mb_ok mX10_port 2 = true := mb_mk (List.mem_of_getElem? (i := 566) rfl) (List.mem_of_getElem? (i := 52) rfl) (by decide +kernel)
set_option maxRecDepth 100000 in
theorem ml_L_67 : decide (Cond.methodLink "DialDeskLaw" 67 yX10_port ∈ lw_tbl) = true := decide_eq_true (List.mem_of_getElem? (i := 563) rfl)
set_option maxRecDepth 100000 in
theorem im_X10_port : decide (Cond.instanceMethod yX10_port ∈ lw_tbl) = true := decide_eq_true (List.mem_of_getElem? (i := 564) rfl)
set_option maxRecDepth 100000 in
theorem se_X10_port : decide (Cond.selects "DialDesk" yX10_port yX10_port ∈ lw_tbl) = true := decide_eq_true (List.mem_of_getElem? (i := 565) rfl)
set_option maxRecDepth 100000 in
theorem mb_X11_port : mb_ok mX11_port 2 = true := mb_mk (List.mem_of_getElem? (i := 1135) rfl) (List.mem_of_getElem? (i := 59) rfl) (by decide +kernel)
set_option maxRecDepth 100000 in
theorem ml_L_70 : decide (Cond.methodLink "DialDeskLaw" 70 yX11_port ∈ lw_tbl) = true := decide_eq_true (List.mem_of_getElem? (i := 1132) rfl)
set_option maxRecDepth 100000 in
theorem im_X11_port : decide (Cond.instanceMethod yX11_port ∈ lw_tbl) = true := decide_eq_true (List.mem_of_getElem? (i := 1133) rfl)
set_option maxRecDepth 100000 in
theorem se_X11_port : decide (Cond.selects "DialDeskModel" yX11_port yX11_port ∈ lw_tbl) = true := decide_eq_true (List.mem_of_getElem? (i := 1134) rfl)
set_option maxRecDepth 100000 in
theorem mb_X10_numberOf : mb_ok mX10_numberOf 2 = true := mb_mk (List.mem_of_getElem? (i := 597) rfl) (List.mem_of_getElem? (i := 52) rfl) (by decide +kernel)
set_option maxRecDepth 100000 in
theorem ml_L_71 : decide (Cond.methodLink "DialDeskLaw" 71 yX10_numberOf ∈ lw_tbl) = true := decide_eq_true (List.mem_of_getElem? (i := 594) rfl)
set_option maxRecDepth 100000 in
theorem im_X10_numberOf : decide (Cond.instanceMethod yX10_numberOf ∈ lw_tbl) = true := decide_eq_true (List.mem_of_getElem? (i := 595) rfl)
set_option maxRecDepth 100000 in
theorem se_X10_numberOf : decide (Cond.selects "DialDesk" yX10_numberOf yX10_numberOf ∈ lw_tbl) = true := decide_eq_true (List.mem_of_getElem? (i := 596) rfl)
set_option maxRecDepth 100000 in
theorem mb_X11_numberOf : mb_ok mX11_numberOf 2 = true := mb_mk (List.mem_of_getElem? (i := 1143) rfl) (List.mem_of_getElem? (i := 59) rfl) (by decide +kernel)
set_option maxRecDepth 100000 in
theorem ml_L_75 : decide (Cond.methodLink "DialDeskLaw" 75 yX11_numberOf ∈ lw_tbl) = true := decide_eq_true (List.mem_of_getElem? (i := 1140) rfl)
set_option maxRecDepth 100000 in
theorem im_X11_numberOf : decide (Cond.instanceMethod yX11_numberOf ∈ lw_tbl) = true := decide_eq_true (List.mem_of_getElem? (i := 1141) rfl)
set_option maxRecDepth 100000 in
theorem se_X11_numberOf : decide (Cond.selects "DialDeskModel" yX11_numberOf yX11_numberOf ∈ lw_tbl) = true := decide_eq_true (List.mem_of_getElem? (i := 1142) rfl)
set_option maxRecDepth 100000 in
theorem mb_X10_lineAt : mb_ok mX10_lineAt 3 = true := mb_mk (List.mem_of_getElem? (i := 610) rfl) (List.mem_of_getElem? (i := 52) rfl) (by decide +kernel)
set_option maxRecDepth 100000 in
theorem ml_L_76 : decide (Cond.methodLink "DialDeskLaw" 76 yX10_lineAt ∈ lw_tbl) = true := decide_eq_true (List.mem_of_getElem? (i := 607) rfl)
set_option maxRecDepth 100000 in
theorem im_X10_lineAt : decide (Cond.instanceMethod yX10_lineAt ∈ lw_tbl) = true := decide_eq_true (List.mem_of_getElem? (i := 608) rfl)
set_option maxRecDepth 100000 in
theorem se_X10_lineAt : decide (Cond.selects "DialDesk" yX10_lineAt yX10_lineAt ∈ lw_tbl) = true := decide_eq_true (List.mem_of_getElem? (i := 609) rfl)
set_option maxRecDepth 100000 in
theorem mb_X11_lineAt : mb_ok mX11_lineAt 3 = true := mb_mk (List.mem_of_getElem? (i := 1151) rfl) (List.mem_of_getElem? (i := 59) rfl) (by decide +kernel)
set_option maxRecDepth 100000 in
theorem ml_L_79 : decide (Cond.methodLink "DialDeskLaw" 79 yX11_lineAt ∈ lw_tbl) = true := decide_eq_true (List.mem_of_getElem? (i := 1148) rfl)
set_option maxRecDepth 100000 in
theorem im_X11_lineAt : decide (Cond.instanceMethod yX11_lineAt ∈ lw_tbl) = true := decide_eq_true (List.mem_of_getElem? (i := 1149) rfl)
set_option maxRecDepth 100000 in
theorem se_X11_lineAt : decide (Cond.selects "DialDeskModel" yX11_lineAt yX11_lineAt ∈ lw_tbl) = true := decide_eq_true (List.mem_of_getElem? (i := 1150) rfl)
set_option maxRecDepth 100000 in
theorem mb_X10_call : mb_ok mX10_call 1 = true := mb_mk (List.mem_of_getElem? (i := 615) rfl) (List.mem_of_getElem? (i := 52) rfl) (by decide +kernel)
set_option maxRecDepth 100000 in
theorem ml_L_80 : decide (Cond.methodLink "DialDeskLaw" 80 yX10_call ∈ lw_tbl) = true := decide_eq_true (List.mem_of_getElem? (i := 612) rfl)
set_option maxRecDepth 100000 in
theorem im_X10_call : decide (Cond.instanceMethod yX10_call ∈ lw_tbl) = true := decide_eq_true (List.mem_of_getElem? (i := 613) rfl)
set_option maxRecDepth 100000 in
theorem se_X10_call : decide (Cond.selects "DialDesk" yX10_call yX10_call ∈ lw_tbl) = true := decide_eq_true (List.mem_of_getElem? (i := 614) rfl)
set_option maxRecDepth 100000 in
theorem mb_X11_call : mb_ok mX11_call 1 = true := mb_mk (List.mem_of_getElem? (i := 1155) rfl) (List.mem_of_getElem? (i := 59) rfl) (by decide +kernel)
set_option maxRecDepth 100000 in
theorem ml_L_83 : decide (Cond.methodLink "DialDeskLaw" 83 yX11_call ∈ lw_tbl) = true := decide_eq_true (List.mem_of_getElem? (i := 1152) rfl)
set_option maxRecDepth 100000 in
theorem im_X11_call : decide (Cond.instanceMethod yX11_call ∈ lw_tbl) = true := decide_eq_true (List.mem_of_getElem? (i := 1153) rfl)
set_option maxRecDepth 100000 in
theorem se_X11_call : decide (Cond.selects "DialDeskModel" yX11_call yX11_call ∈ lw_tbl) = true := decide_eq_true (List.mem_of_getElem? (i := 1154) rfl)
set_option maxRecDepth 100000 in
theorem mb_X10_figure : mb_ok mX10_figure 2 = true := mb_mk (List.mem_of_getElem? (i := 627) rfl) (List.mem_of_getElem? (i := 52) rfl) (by decide +kernel)
set_option maxRecDepth 100000 in
theorem ml_L_84 : decide (Cond.methodLink "DialDeskLaw" 84 yX10_figure ∈ lw_tbl) = true := decide_eq_true (List.mem_of_getElem? (i := 624) rfl)
set_option maxRecDepth 100000 in
theorem im_X10_figure : decide (Cond.instanceMethod yX10_figure ∈ lw_tbl) = true := decide_eq_true (List.mem_of_getElem? (i := 625) rfl)
set_option maxRecDepth 100000 in
theorem se_X10_figure : decide (Cond.selects "DialDesk" yX10_figure yX10_figure ∈ lw_tbl) = true := decide_eq_true (List.mem_of_getElem? (i := 626) rfl)
set_option maxRecDepth 100000 in
theorem mb_X11_figure : mb_ok mX11_figure 2 = true := mb_mk (List.mem_of_getElem? (i := 1164) rfl) (List.mem_of_getElem? (i := 59) rfl) (by decide +kernel)
set_option maxRecDepth 100000 in
theorem ml_L_87 : decide (Cond.methodLink "DialDeskLaw" 87 yX11_figure ∈ lw_tbl) = true := decide_eq_true (List.mem_of_getElem? (i := 1161) rfl)
set_option maxRecDepth 100000 in
theorem im_X11_figure : decide (Cond.instanceMethod yX11_figure ∈ lw_tbl) = true := decide_eq_true (List.mem_of_getElem? (i := 1162) rfl)
set_option maxRecDepth 100000 in
theorem se_X11_figure : decide (Cond.selects "DialDeskModel" yX11_figure yX11_figure ∈ lw_tbl) = true := decide_eq_true (List.mem_of_getElem? (i := 1163) rfl)
set_option maxRecDepth 100000 in
theorem mb_X10_waits : mb_ok mX10_waits 1 = true := mb_mk (List.mem_of_getElem? (i := 667) rfl) (List.mem_of_getElem? (i := 52) rfl) (by decide +kernel)
set_option maxRecDepth 100000 in
theorem ml_L_88 : decide (Cond.methodLink "DialDeskLaw" 88 yX10_waits ∈ lw_tbl) = true := decide_eq_true (List.mem_of_getElem? (i := 664) rfl)
set_option maxRecDepth 100000 in
theorem im_X10_waits : decide (Cond.instanceMethod yX10_waits ∈ lw_tbl) = true := decide_eq_true (List.mem_of_getElem? (i := 665) rfl)
set_option maxRecDepth 100000 in
theorem se_X10_waits : decide (Cond.selects "DialDesk" yX10_waits yX10_waits ∈ lw_tbl) = true := decide_eq_true (List.mem_of_getElem? (i := 666) rfl)
set_option maxRecDepth 100000 in
theorem mb_X11_waits : mb_ok mX11_waits 1 = true := mb_mk (List.mem_of_getElem? (i := 1188) rfl) (List.mem_of_getElem? (i := 59) rfl) (by decide +kernel)
set_option maxRecDepth 100000 in
theorem ml_L_91 : decide (Cond.methodLink "DialDeskLaw" 91 yX11_waits ∈ lw_tbl) = true := decide_eq_true (List.mem_of_getElem? (i := 1185) rfl)
set_option maxRecDepth 100000 in
theorem im_X11_waits : decide (Cond.instanceMethod yX11_waits ∈ lw_tbl) = true := decide_eq_true (List.mem_of_getElem? (i := 1186) rfl)
set_option maxRecDepth 100000 in
theorem se_X11_waits : decide (Cond.selects "DialDeskModel" yX11_waits yX11_waits ∈ lw_tbl) = true := decide_eq_true (List.mem_of_getElem? (i := 1187) rfl)
set_option maxRecDepth 100000 in
theorem mb_X10_told : mb_ok mX10_told 2 = true := mb_mk (List.mem_of_getElem? (i := 671) rfl) (List.mem_of_getElem? (i := 52) rfl) (by decide +kernel)
set_option maxRecDepth 100000 in
theorem ml_L_92 : decide (Cond.methodLink "DialDeskLaw" 92 yX10_told ∈ lw_tbl) = true := decide_eq_true (List.mem_of_getElem? (i := 668) rfl)
set_option maxRecDepth 100000 in
theorem im_X10_told : decide (Cond.instanceMethod yX10_told ∈ lw_tbl) = true := decide_eq_true (List.mem_of_getElem? (i := 669) rfl)
set_option maxRecDepth 100000 in
theorem se_X10_told : decide (Cond.selects "DialDesk" yX10_told yX10_told ∈ lw_tbl) = true := decide_eq_true (List.mem_of_getElem? (i := 670) rfl)
set_option maxRecDepth 100000 in
theorem mb_X11_told : mb_ok mX11_told 2 = true := mb_mk (List.mem_of_getElem? (i := 1192) rfl) (List.mem_of_getElem? (i := 59) rfl) (by decide +kernel)
set_option maxRecDepth 100000 in
theorem ml_L_95 : decide (Cond.methodLink "DialDeskLaw" 95 yX11_told ∈ lw_tbl) = true := decide_eq_true (List.mem_of_getElem? (i := 1189) rfl)
set_option maxRecDepth 100000 in
theorem im_X11_told : decide (Cond.instanceMethod yX11_told ∈ lw_tbl) = true := decide_eq_true (List.mem_of_getElem? (i := 1190) rfl)
set_option maxRecDepth 100000 in
theorem se_X11_told : decide (Cond.selects "DialDeskModel" yX11_told yX11_told ∈ lw_tbl) = true := decide_eq_true (List.mem_of_getElem? (i := 1191) rfl)
set_option maxRecDepth 100000 in
theorem kl_L_96 : decide (Cond.constantLong "DialDeskLaw" 96 4294967295 ∈ lw_tbl) = true := decide_eq_true (List.mem_of_getElem? (i := 1269) rfl)
set_option maxRecDepth 100000 in
theorem mb_X10_leads : mb_ok mX10_leads 2 = true := mb_mk (List.mem_of_getElem? (i := 706) rfl) (List.mem_of_getElem? (i := 52) rfl) (by decide +kernel)
set_option maxRecDepth 100000 in
theorem ml_L_98 : decide (Cond.methodLink "DialDeskLaw" 98 yX10_leads ∈ lw_tbl) = true := decide_eq_true (List.mem_of_getElem? (i := 703) rfl)
set_option maxRecDepth 100000 in
theorem im_X10_leads : decide (Cond.instanceMethod yX10_leads ∈ lw_tbl) = true := decide_eq_true (List.mem_of_getElem? (i := 704) rfl)
set_option maxRecDepth 100000 in
theorem se_X10_leads : decide (Cond.selects "DialDesk" yX10_leads yX10_leads ∈ lw_tbl) = true := decide_eq_true (List.mem_of_getElem? (i := 705) rfl)
set_option maxRecDepth 100000 in
theorem mb_X11_leads : mb_ok mX11_leads 2 = true := mb_mk (List.mem_of_getElem? (i := 1216) rfl) (List.mem_of_getElem? (i := 59) rfl) (by decide +kernel)
set_option maxRecDepth 100000 in
theorem ml_L_102 : decide (Cond.methodLink "DialDeskLaw" 102 yX11_leads ∈ lw_tbl) = true := decide_eq_true (List.mem_of_getElem? (i := 1213) rfl)
set_option maxRecDepth 100000 in
theorem im_X11_leads : decide (Cond.instanceMethod yX11_leads ∈ lw_tbl) = true := decide_eq_true (List.mem_of_getElem? (i := 1214) rfl)
set_option maxRecDepth 100000 in
theorem se_X11_leads : decide (Cond.selects "DialDeskModel" yX11_leads yX11_leads ∈ lw_tbl) = true := decide_eq_true (List.mem_of_getElem? (i := 1215) rfl)
set_option maxRecDepth 100000 in
theorem mb_X10_demand : mb_ok mX10_demand 3 = true := mb_mk (List.mem_of_getElem? (i := 710) rfl) (List.mem_of_getElem? (i := 52) rfl) (by decide +kernel)
set_option maxRecDepth 100000 in
theorem ml_L_103 : decide (Cond.methodLink "DialDeskLaw" 103 yX10_demand ∈ lw_tbl) = true := decide_eq_true (List.mem_of_getElem? (i := 707) rfl)
set_option maxRecDepth 100000 in
theorem im_X10_demand : decide (Cond.instanceMethod yX10_demand ∈ lw_tbl) = true := decide_eq_true (List.mem_of_getElem? (i := 708) rfl)
set_option maxRecDepth 100000 in
theorem se_X10_demand : decide (Cond.selects "DialDesk" yX10_demand yX10_demand ∈ lw_tbl) = true := decide_eq_true (List.mem_of_getElem? (i := 709) rfl)
set_option maxRecDepth 100000 in
theorem mb_X11_demand : mb_ok mX11_demand 3 = true := mb_mk (List.mem_of_getElem? (i := 1224) rfl) (List.mem_of_getElem? (i := 59) rfl) (by decide +kernel)
set_option maxRecDepth 100000 in
theorem ml_L_106 : decide (Cond.methodLink "DialDeskLaw" 106 yX11_demand ∈ lw_tbl) = true := decide_eq_true (List.mem_of_getElem? (i := 1221) rfl)
set_option maxRecDepth 100000 in
theorem im_X11_demand : decide (Cond.instanceMethod yX11_demand ∈ lw_tbl) = true := decide_eq_true (List.mem_of_getElem? (i := 1222) rfl)
set_option maxRecDepth 100000 in
theorem se_X11_demand : decide (Cond.selects "DialDeskModel" yX11_demand yX11_demand ∈ lw_tbl) = true := decide_eq_true (List.mem_of_getElem? (i := 1223) rfl)
set_option maxRecDepth 100000 in
theorem mb_X10_room : mb_ok mX10_room 2 = true := mb_mk (List.mem_of_getElem? (i := 720) rfl) (List.mem_of_getElem? (i := 52) rfl) (by decide +kernel)
set_option maxRecDepth 100000 in
theorem ml_L_107 : decide (Cond.methodLink "DialDeskLaw" 107 yX10_room ∈ lw_tbl) = true := decide_eq_true (List.mem_of_getElem? (i := 717) rfl)
set_option maxRecDepth 100000 in
theorem im_X10_room : decide (Cond.instanceMethod yX10_room ∈ lw_tbl) = true := decide_eq_true (List.mem_of_getElem? (i := 718) rfl)
set_option maxRecDepth 100000 in
theorem se_X10_room : decide (Cond.selects "DialDesk" yX10_room yX10_room ∈ lw_tbl) = true := decide_eq_true (List.mem_of_getElem? (i := 719) rfl)
set_option maxRecDepth 100000 in
theorem mb_X11_room : mb_ok mX11_room 2 = true := mb_mk (List.mem_of_getElem? (i := 1230) rfl) (List.mem_of_getElem? (i := 59) rfl) (by decide +kernel)
set_option maxRecDepth 100000 in
theorem ml_L_110 : decide (Cond.methodLink "DialDeskLaw" 110 yX11_room ∈ lw_tbl) = true := decide_eq_true (List.mem_of_getElem? (i := 1227) rfl)
set_option maxRecDepth 100000 in
theorem im_X11_room : decide (Cond.instanceMethod yX11_room ∈ lw_tbl) = true := decide_eq_true (List.mem_of_getElem? (i := 1228) rfl)
set_option maxRecDepth 100000 in
theorem se_X11_room : decide (Cond.selects "DialDeskModel" yX11_room yX11_room ∈ lw_tbl) = true := decide_eq_true (List.mem_of_getElem? (i := 1229) rfl)
set_option maxRecDepth 100000 in
theorem mb_X10_shortage : mb_ok mX10_shortage 1 = true := mb_mk (List.mem_of_getElem? (i := 741) rfl) (List.mem_of_getElem? (i := 52) rfl) (by decide +kernel)
set_option maxRecDepth 100000 in
theorem ml_L_111 : decide (Cond.methodLink "DialDeskLaw" 111 yX10_shortage ∈ lw_tbl) = true := decide_eq_true (List.mem_of_getElem? (i := 738) rfl)
set_option maxRecDepth 100000 in
theorem im_X10_shortage : decide (Cond.instanceMethod yX10_shortage ∈ lw_tbl) = true := decide_eq_true (List.mem_of_getElem? (i := 739) rfl)
set_option maxRecDepth 100000 in
theorem se_X10_shortage : decide (Cond.selects "DialDesk" yX10_shortage yX10_shortage ∈ lw_tbl) = true := decide_eq_true (List.mem_of_getElem? (i := 740) rfl)
set_option maxRecDepth 100000 in
theorem mb_X11_shortage : mb_ok mX11_shortage 1 = true := mb_mk (List.mem_of_getElem? (i := 1239) rfl) (List.mem_of_getElem? (i := 59) rfl) (by decide +kernel)
set_option maxRecDepth 100000 in
theorem ml_L_114 : decide (Cond.methodLink "DialDeskLaw" 114 yX11_shortage ∈ lw_tbl) = true := decide_eq_true (List.mem_of_getElem? (i := 1236) rfl)
set_option maxRecDepth 100000 in
theorem im_X11_shortage : decide (Cond.instanceMethod yX11_shortage ∈ lw_tbl) = true := decide_eq_true (List.mem_of_getElem? (i := 1237) rfl)
set_option maxRecDepth 100000 in
theorem se_X11_shortage : decide (Cond.selects "DialDeskModel" yX11_shortage yX11_shortage ∈ lw_tbl) = true := decide_eq_true (List.mem_of_getElem? (i := 1238) rfl)
set_option maxRecDepth 100000 in
theorem mb_X10_mightCome : mb_ok mX10_mightCome 6 = true := mb_mk (List.mem_of_getElem? (i := 773) rfl) (List.mem_of_getElem? (i := 52) rfl) (by decide +kernel)
set_option maxRecDepth 100000 in
theorem ml_L_115 : decide (Cond.methodLink "DialDeskLaw" 115 yX10_mightCome ∈ lw_tbl) = true := decide_eq_true (List.mem_of_getElem? (i := 770) rfl)
set_option maxRecDepth 100000 in
theorem im_X10_mightCome : decide (Cond.instanceMethod yX10_mightCome ∈ lw_tbl) = true := decide_eq_true (List.mem_of_getElem? (i := 771) rfl)
set_option maxRecDepth 100000 in
theorem se_X10_mightCome : decide (Cond.selects "DialDesk" yX10_mightCome yX10_mightCome ∈ lw_tbl) = true := decide_eq_true (List.mem_of_getElem? (i := 772) rfl)
set_option maxRecDepth 100000 in
theorem mb_X11_mightCome : mb_ok mX11_mightCome 6 = true := mb_mk (List.mem_of_getElem? (i := 1251) rfl) (List.mem_of_getElem? (i := 59) rfl) (by decide +kernel)
set_option maxRecDepth 100000 in
theorem ml_L_118 : decide (Cond.methodLink "DialDeskLaw" 118 yX11_mightCome ∈ lw_tbl) = true := decide_eq_true (List.mem_of_getElem? (i := 1248) rfl)
set_option maxRecDepth 100000 in
theorem im_X11_mightCome : decide (Cond.instanceMethod yX11_mightCome ∈ lw_tbl) = true := decide_eq_true (List.mem_of_getElem? (i := 1249) rfl)
set_option maxRecDepth 100000 in
theorem se_X11_mightCome : decide (Cond.selects "DialDeskModel" yX11_mightCome yX11_mightCome ∈ lw_tbl) = true := decide_eq_true (List.mem_of_getElem? (i := 1250) rfl)
set_option maxRecDepth 100000 in
theorem mb_X10_relief : mb_ok mX10_relief 2 = true := mb_mk (List.mem_of_getElem? (i := 797) rfl) (List.mem_of_getElem? (i := 52) rfl) (by decide +kernel)
set_option maxRecDepth 100000 in
theorem ml_L_119 : decide (Cond.methodLink "DialDeskLaw" 119 yX10_relief ∈ lw_tbl) = true := decide_eq_true (List.mem_of_getElem? (i := 794) rfl)
set_option maxRecDepth 100000 in
theorem im_X10_relief : decide (Cond.instanceMethod yX10_relief ∈ lw_tbl) = true := decide_eq_true (List.mem_of_getElem? (i := 795) rfl)
set_option maxRecDepth 100000 in
theorem se_X10_relief : decide (Cond.selects "DialDesk" yX10_relief yX10_relief ∈ lw_tbl) = true := decide_eq_true (List.mem_of_getElem? (i := 796) rfl)
set_option maxRecDepth 100000 in
theorem mb_X11_relief : mb_ok mX11_relief 2 = true := mb_mk (List.mem_of_getElem? (i := 1255) rfl) (List.mem_of_getElem? (i := 59) rfl) (by decide +kernel)
set_option maxRecDepth 100000 in
theorem ml_L_122 : decide (Cond.methodLink "DialDeskLaw" 122 yX11_relief ∈ lw_tbl) = true := decide_eq_true (List.mem_of_getElem? (i := 1252) rfl)
set_option maxRecDepth 100000 in
theorem im_X11_relief : decide (Cond.instanceMethod yX11_relief ∈ lw_tbl) = true := decide_eq_true (List.mem_of_getElem? (i := 1253) rfl)
set_option maxRecDepth 100000 in
theorem se_X11_relief : decide (Cond.selects "DialDeskModel" yX11_relief yX11_relief ∈ lw_tbl) = true := decide_eq_true (List.mem_of_getElem? (i := 1254) rfl)
set_option maxRecDepth 100000 in
theorem mb_X10_take : mb_ok mX10_take 1 = true := mb_mk (List.mem_of_getElem? (i := 850) rfl) (List.mem_of_getElem? (i := 52) rfl) (by decide +kernel)
set_option maxRecDepth 100000 in
theorem ml_L_123 : decide (Cond.methodLink "DialDeskLaw" 123 yX10_take ∈ lw_tbl) = true := decide_eq_true (List.mem_of_getElem? (i := 847) rfl)
set_option maxRecDepth 100000 in
theorem im_X10_take : decide (Cond.instanceMethod yX10_take ∈ lw_tbl) = true := decide_eq_true (List.mem_of_getElem? (i := 848) rfl)
set_option maxRecDepth 100000 in
theorem se_X10_take : decide (Cond.selects "DialDesk" yX10_take yX10_take ∈ lw_tbl) = true := decide_eq_true (List.mem_of_getElem? (i := 849) rfl)
set_option maxRecDepth 100000 in
theorem mb_X11_take : mb_ok mX11_take 1 = true := mb_mk (List.mem_of_getElem? (i := 1264) rfl) (List.mem_of_getElem? (i := 59) rfl) (by decide +kernel)
set_option maxRecDepth 100000 in
theorem ml_L_126 : decide (Cond.methodLink "DialDeskLaw" 126 yX11_take ∈ lw_tbl) = true := decide_eq_true (List.mem_of_getElem? (i := 1261) rfl)
set_option maxRecDepth 100000 in
theorem im_X11_take : decide (Cond.instanceMethod yX11_take ∈ lw_tbl) = true := decide_eq_true (List.mem_of_getElem? (i := 1262) rfl)
set_option maxRecDepth 100000 in
theorem se_X11_take : decide (Cond.selects "DialDeskModel" yX11_take yX11_take ∈ lw_tbl) = true := decide_eq_true (List.mem_of_getElem? (i := 1263) rfl)
set_option maxRecDepth 100000 in
theorem mb_X10_count : mb_ok mX10_count 1 = true := mb_mk (List.mem_of_getElem? (i := 859) rfl) (List.mem_of_getElem? (i := 52) rfl) (by decide +kernel)
set_option maxRecDepth 100000 in
theorem ml_L_127 : decide (Cond.methodLink "DialDeskLaw" 127 yX10_count ∈ lw_tbl) = true := decide_eq_true (List.mem_of_getElem? (i := 856) rfl)
set_option maxRecDepth 100000 in
theorem im_X10_count : decide (Cond.instanceMethod yX10_count ∈ lw_tbl) = true := decide_eq_true (List.mem_of_getElem? (i := 857) rfl)
set_option maxRecDepth 100000 in
theorem se_X10_count : decide (Cond.selects "DialDesk" yX10_count yX10_count ∈ lw_tbl) = true := decide_eq_true (List.mem_of_getElem? (i := 858) rfl)
set_option maxRecDepth 100000 in
theorem mb_X11_count : mb_ok mX11_count 1 = true := mb_mk (List.mem_of_getElem? (i := 1268) rfl) (List.mem_of_getElem? (i := 59) rfl) (by decide +kernel)
set_option maxRecDepth 100000 in
theorem ml_L_130 : decide (Cond.methodLink "DialDeskLaw" 130 yX11_count ∈ lw_tbl) = true := decide_eq_true (List.mem_of_getElem? (i := 1265) rfl)
set_option maxRecDepth 100000 in
theorem im_X11_count : decide (Cond.instanceMethod yX11_count ∈ lw_tbl) = true := decide_eq_true (List.mem_of_getElem? (i := 1266) rfl)
set_option maxRecDepth 100000 in
theorem se_X11_count : decide (Cond.selects "DialDeskModel" yX11_count yX11_count ∈ lw_tbl) = true := decide_eq_true (List.mem_of_getElem? (i := 1267) rfl)
