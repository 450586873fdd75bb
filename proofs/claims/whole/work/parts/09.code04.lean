set_option maxHeartbeats 4000000 in
set_option maxRecDepth 100000 in
theorem ctX11_put {X : Cx_} {this : Nat} {a1 : Int32} {a2 : Int32} {a3 : Int32} {a4 : Int32} {a5 : Int32} {a6 : Int32} {a7 : Int32} {a8 : Int32} {a9 : Int32} {M : Mm} {post : Int32 → Mm → Prop} (h : PX11_put this a1 a2 a3 a4 a5 a6 a7 a8 a9 M post) : CT X mX11_put rX11_put [.inr (.inr (some this)), .inl a1, .inl a2, .inl a3, .inl a4, .inl a5, .inl a6, .inl a7, .inl a8, .inl a9] M (pI_ post) := by
  unfold PX11_put at h
  refine CT.of (by decide +kernel) (Nat.le_of_ble_eq_true rfl) ?_
  show VV X mX11_put rX11_put (pI_ post) 0 [(0, .inr (.inr (some this))), (1, .inl a1), (2, .inl a2), (3, .inl a3), (4, .inl a4), (5, .inl a5), (6, .inl a6), (7, .inl a7), (8, .inl a8), (9, .inl a9)] [] M 0 0
  refine vv_aload_n (mi := mX11_put) (pc := 0) 0 dX11_put_0 rfl rfl ?_
  obtain ⟨ht1, h⟩ := h
  refine vv_getR (mi := mX11_put) (pc := 1) 11 2 rfl ht1 fl_X11_7 (Nat.le_of_ble_eq_true rfl) dX11_put_1 ?_
  refine vv_iload_n (mi := mX11_put) (pc := 4) 1 dX11_put_4 rfl rfl ?_
  refine vv_iload_n (mi := mX11_put) (pc := 5) 2 dX11_put_5 rfl rfl ?_
  obtain ⟨aq2, hs3, h⟩ := h
  obtain ⟨ht4, h⟩ := h
  obtain ⟨hi5, h⟩ := h
  obtain ⟨M6, eM6⟩ : ∃ z : Mm, z = suI M aq2 (Int32.toNatClampNeg a1) a2 := ⟨_, rfl⟩
  replace h := h _ eM6
  refine vv_iast (mi := mX11_put) (pc := 6) hs3 ht4 hi5 dX11_put_6 eM6 ?_
  refine vv_aload_n (mi := mX11_put) (pc := 7) 0 dX11_put_7 rfl rfl ?_
  refine vv_getR (mi := mX11_put) (pc := 8) 11 3 rfl (tgI_ eM6 ht1) fl_X11_13 (Nat.le_of_ble_eq_true rfl) dX11_put_8 ?_
  refine vv_iload_n (mi := mX11_put) (pc := 11) 1 dX11_put_11 rfl rfl ?_
  refine vv_iload_n (mi := mX11_put) (pc := 12) 3 dX11_put_12 rfl rfl ?_
  obtain ⟨aq7, hs8, h⟩ := h
  obtain ⟨ht9, h⟩ := h
  obtain ⟨hi10, h⟩ := h
  obtain ⟨M11, eM11⟩ : ∃ z : Mm, z = suI M6 aq7 (Int32.toNatClampNeg a1) a3 := ⟨_, rfl⟩
  replace h := h _ eM11
  refine vv_iast (mi := mX11_put) (pc := 13) hs8 ht9 hi10 dX11_put_13 eM11 ?_
  refine vv_aload_n (mi := mX11_put) (pc := 14) 0 dX11_put_14 rfl rfl ?_
  refine vv_getR (mi := mX11_put) (pc := 15) 11 4 rfl (tgI_ eM11 (tgI_ eM6 ht1)) fl_X11_16 (Nat.le_of_ble_eq_true rfl) dX11_put_15 ?_
  refine vv_iload_n (mi := mX11_put) (pc := 18) 1 dX11_put_18 rfl rfl ?_
  refine vv_iload (mi := mX11_put) (pc := 19) 4 dX11_put_19 rfl ?_
  obtain ⟨aq12, hs13, h⟩ := h
  obtain ⟨ht14, h⟩ := h
  obtain ⟨hi15, h⟩ := h
  obtain ⟨M16, eM16⟩ : ∃ z : Mm, z = suI M11 aq12 (Int32.toNatClampNeg a1) a4 := ⟨_, rfl⟩
  replace h := h _ eM16
  refine vv_iast (mi := mX11_put) (pc := 21) hs13 ht14 hi15 dX11_put_21 eM16 ?_
  refine vv_aload_n (mi := mX11_put) (pc := 22) 0 dX11_put_22 rfl rfl ?_
  refine vv_getR (mi := mX11_put) (pc := 23) 11 5 rfl (tgI_ eM16 (tgI_ eM11 (tgI_ eM6 ht1))) fl_X11_19 (Nat.le_of_ble_eq_true rfl) dX11_put_23 ?_
  refine vv_iload_n (mi := mX11_put) (pc := 26) 1 dX11_put_26 rfl rfl ?_
  refine vv_iload (mi := mX11_put) (pc := 27) 5 dX11_put_27 rfl ?_
  obtain ⟨aq17, hs18, h⟩ := h
  obtain ⟨ht19, h⟩ := h
  obtain ⟨hi20, h⟩ := h
  obtain ⟨M21, eM21⟩ : ∃ z : Mm, z = suI M16 aq17 (Int32.toNatClampNeg a1) a5 := ⟨_, rfl⟩
  replace h := h _ eM21
  refine vv_iast (mi := mX11_put) (pc := 29) hs18 ht19 hi20 dX11_put_29 eM21 ?_
  refine vv_aload_n (mi := mX11_put) (pc := 30) 0 dX11_put_30 rfl rfl ?_
  refine vv_getR (mi := mX11_put) (pc := 31) 11 6 rfl (tgI_ eM21 (tgI_ eM16 (tgI_ eM11 (tgI_ eM6 ht1)))) fl_X11_22 (Nat.le_of_ble_eq_true rfl) dX11_put_31 ?_
  refine vv_iload_n (mi := mX11_put) (pc := 34) 1 dX11_put_34 rfl rfl ?_
  refine vv_iload (mi := mX11_put) (pc := 35) 6 dX11_put_35 rfl ?_
  obtain ⟨aq22, hs23, h⟩ := h
  obtain ⟨ht24, h⟩ := h
  obtain ⟨hi25, h⟩ := h
  obtain ⟨M26, eM26⟩ : ∃ z : Mm, z = suI M21 aq22 (Int32.toNatClampNeg a1) a6 := ⟨_, rfl⟩
  replace h := h _ eM26
  refine vv_iast (mi := mX11_put) (pc := 37) hs23 ht24 hi25 dX11_put_37 eM26 ?_
  refine vv_aload_n (mi := mX11_put) (pc := 38) 0 dX11_put_38 rfl rfl ?_
  refine vv_getR (mi := mX11_put) (pc := 39) 11 7 rfl (tgI_ eM26 (tgI_ eM21 (tgI_ eM16 (tgI_ eM11 (tgI_ eM6 ht1))))) fl_X11_25 (Nat.le_of_ble_eq_true rfl) dX11_put_39 ?_
  refine vv_iload_n (mi := mX11_put) (pc := 42) 1 dX11_put_42 rfl rfl ?_
  refine vv_iload (mi := mX11_put) (pc := 43) 7 dX11_put_43 rfl ?_
  obtain ⟨aq27, hs28, h⟩ := h
  obtain ⟨ht29, h⟩ := h
  obtain ⟨hi30, h⟩ := h
  obtain ⟨M31, eM31⟩ : ∃ z : Mm, z = suI M26 aq27 (Int32.toNatClampNeg a1) a7 := ⟨_, rfl⟩
  replace h := h _ eM31
  refine vv_iast (mi := mX11_put) (pc := 45) hs28 ht29 hi30 dX11_put_45 eM31 ?_
  refine vv_aload_n (mi := mX11_put) (pc := 46) 0 dX11_put_46 rfl rfl ?_
  refine vv_getR (mi := mX11_put) (pc := 47) 11 8 rfl (tgI_ eM31 (tgI_ eM26 (tgI_ eM21 (tgI_ eM16 (tgI_ eM11 (tgI_ eM6 ht1)))))) fl_X11_28 (Nat.le_of_ble_eq_true rfl) dX11_put_47 ?_
  refine vv_iload_n (mi := mX11_put) (pc := 50) 1 dX11_put_50 rfl rfl ?_
  refine vv_iload (mi := mX11_put) (pc := 51) 8 dX11_put_51 rfl ?_
  obtain ⟨aq32, hs33, h⟩ := h
  obtain ⟨ht34, h⟩ := h
  obtain ⟨hi35, h⟩ := h
  obtain ⟨M36, eM36⟩ : ∃ z : Mm, z = suI M31 aq32 (Int32.toNatClampNeg a1) a8 := ⟨_, rfl⟩
  replace h := h _ eM36
  refine vv_iast (mi := mX11_put) (pc := 53) hs33 ht34 hi35 dX11_put_53 eM36 ?_
  refine vv_aload_n (mi := mX11_put) (pc := 54) 0 dX11_put_54 rfl rfl ?_
  refine vv_getR (mi := mX11_put) (pc := 55) 11 9 rfl (tgI_ eM36 (tgI_ eM31 (tgI_ eM26 (tgI_ eM21 (tgI_ eM16 (tgI_ eM11 (tgI_ eM6 ht1))))))) fl_X11_31 (Nat.le_of_ble_eq_true rfl) dX11_put_55 ?_
  refine vv_iload_n (mi := mX11_put) (pc := 58) 1 dX11_put_58 rfl rfl ?_
  refine vv_iload (mi := mX11_put) (pc := 59) 9 dX11_put_59 rfl ?_
  obtain ⟨aq37, hs38, h⟩ := h
  obtain ⟨ht39, h⟩ := h
  obtain ⟨hi40, h⟩ := h
  obtain ⟨M41, eM41⟩ : ∃ z : Mm, z = suI M36 aq37 (Int32.toNatClampNeg a1) a9 := ⟨_, rfl⟩
  replace h := h _ eM41
  refine vv_iast (mi := mX11_put) (pc := 61) hs38 ht39 hi40 dX11_put_61 eM41 ?_
  refine vv_aload_n (mi := mX11_put) (pc := 62) 0 dX11_put_62 rfl rfl ?_
  refine vv_getR (mi := mX11_put) (pc := 63) 11 10 rfl (tgI_ eM41 (tgI_ eM36 (tgI_ eM31 (tgI_ eM26 (tgI_ eM21 (tgI_ eM16 (tgI_ eM11 (tgI_ eM6 ht1)))))))) fl_X11_34 (Nat.le_of_ble_eq_true rfl) dX11_put_63 ?_
  refine vv_iload_n (mi := mX11_put) (pc := 66) 1 dX11_put_66 rfl rfl ?_
  refine vv_iconst (mi := mX11_put) (pc := 67) (-1) dX11_put_67 rfl ?_
  obtain ⟨aq42, hs43, h⟩ := h
  obtain ⟨ht44, h⟩ := h
  obtain ⟨hi45, h⟩ := h
  obtain ⟨M46, eM46⟩ : ∃ z : Mm, z = suI M41 aq42 (Int32.toNatClampNeg a1) (-1) := ⟨_, rfl⟩
  replace h := h _ eM46
  refine vv_iast (mi := mX11_put) (pc := 68) hs43 ht44 hi45 dX11_put_68 eM46 ?_
  refine vv_aload_n (mi := mX11_put) (pc := 69) 0 dX11_put_69 rfl rfl ?_
  refine vv_getR (mi := mX11_put) (pc := 70) 11 11 rfl (tgI_ eM46 (tgI_ eM41 (tgI_ eM36 (tgI_ eM31 (tgI_ eM26 (tgI_ eM21 (tgI_ eM16 (tgI_ eM11 (tgI_ eM6 ht1))))))))) fl_X11_37 (Nat.le_of_ble_eq_true rfl) dX11_put_70 ?_
  refine vv_iload_n (mi := mX11_put) (pc := 73) 1 dX11_put_73 rfl rfl ?_
  refine vv_iconst (mi := mX11_put) (pc := 74) (-1) dX11_put_74 rfl ?_
  obtain ⟨aq47, hs48, h⟩ := h
  obtain ⟨ht49, h⟩ := h
  obtain ⟨hi50, h⟩ := h
  obtain ⟨M51, eM51⟩ : ∃ z : Mm, z = suI M46 aq47 (Int32.toNatClampNeg a1) (-1) := ⟨_, rfl⟩
  replace h := h _ eM51
  refine vv_iast (mi := mX11_put) (pc := 75) hs48 ht49 hi50 dX11_put_75 eM51 ?_
  refine vv_aload_n (mi := mX11_put) (pc := 76) 0 dX11_put_76 rfl rfl ?_
  refine vv_getR (mi := mX11_put) (pc := 77) 11 12 rfl (tgI_ eM51 (tgI_ eM46 (tgI_ eM41 (tgI_ eM36 (tgI_ eM31 (tgI_ eM26 (tgI_ eM21 (tgI_ eM16 (tgI_ eM11 (tgI_ eM6 ht1)))))))))) fl_X11_40 (Nat.le_of_ble_eq_true rfl) dX11_put_77 ?_
  refine vv_iload_n (mi := mX11_put) (pc := 80) 1 dX11_put_80 rfl rfl ?_
  refine vv_iconst (mi := mX11_put) (pc := 81) (-1) dX11_put_81 rfl ?_
  obtain ⟨aq52, hs53, h⟩ := h
  obtain ⟨ht54, h⟩ := h
  obtain ⟨hi55, h⟩ := h
  obtain ⟨M56, eM56⟩ : ∃ z : Mm, z = suI M51 aq52 (Int32.toNatClampNeg a1) (-1) := ⟨_, rfl⟩
  replace h := h _ eM56
  refine vv_iast (mi := mX11_put) (pc := 82) hs53 ht54 hi55 dX11_put_82 eM56 ?_
  refine vv_aload_n (mi := mX11_put) (pc := 83) 0 dX11_put_83 rfl rfl ?_
  refine vv_getR (mi := mX11_put) (pc := 84) 11 13 rfl (tgI_ eM56 (tgI_ eM51 (tgI_ eM46 (tgI_ eM41 (tgI_ eM36 (tgI_ eM31 (tgI_ eM26 (tgI_ eM21 (tgI_ eM16 (tgI_ eM11 (tgI_ eM6 ht1))))))))))) fl_X11_43 (Nat.le_of_ble_eq_true rfl) dX11_put_84 ?_
  refine vv_iload_n (mi := mX11_put) (pc := 87) 1 dX11_put_87 rfl rfl ?_
  refine vv_iconst (mi := mX11_put) (pc := 88) 0 dX11_put_88 rfl ?_
  obtain ⟨aq57, hs58, h⟩ := h
  obtain ⟨ht59, h⟩ := h
  obtain ⟨hi60, h⟩ := h
  obtain ⟨M61, eM61⟩ : ∃ z : Mm, z = suI M56 aq57 (Int32.toNatClampNeg a1) 0 := ⟨_, rfl⟩
  replace h := h _ eM61
  refine vv_iast (mi := mX11_put) (pc := 89) hs58 ht59 hi60 dX11_put_89 eM61 ?_
  refine vv_aload_n (mi := mX11_put) (pc := 90) 0 dX11_put_90 rfl rfl ?_
  refine vv_getR (mi := mX11_put) (pc := 91) 11 14 rfl (tgI_ eM61 (tgI_ eM56 (tgI_ eM51 (tgI_ eM46 (tgI_ eM41 (tgI_ eM36 (tgI_ eM31 (tgI_ eM26 (tgI_ eM21 (tgI_ eM16 (tgI_ eM11 (tgI_ eM6 ht1)))))))))))) fl_X11_46 (Nat.le_of_ble_eq_true rfl) dX11_put_91 ?_
  refine vv_iload_n (mi := mX11_put) (pc := 94) 1 dX11_put_94 rfl rfl ?_
  refine vv_iconst (mi := mX11_put) (pc := 95) (-1) dX11_put_95 rfl ?_
  obtain ⟨aq62, hs63, h⟩ := h
  obtain ⟨ht64, h⟩ := h
  obtain ⟨hi65, h⟩ := h
  obtain ⟨M66, eM66⟩ : ∃ z : Mm, z = suI M61 aq62 (Int32.toNatClampNeg a1) (-1) := ⟨_, rfl⟩
  replace h := h _ eM66
  refine vv_iast (mi := mX11_put) (pc := 96) hs63 ht64 hi65 dX11_put_96 eM66 ?_
  refine vv_aload_n (mi := mX11_put) (pc := 97) 0 dX11_put_97 rfl rfl ?_
  refine vv_getR (mi := mX11_put) (pc := 98) 11 15 rfl (tgI_ eM66 (tgI_ eM61 (tgI_ eM56 (tgI_ eM51 (tgI_ eM46 (tgI_ eM41 (tgI_ eM36 (tgI_ eM31 (tgI_ eM26 (tgI_ eM21 (tgI_ eM16 (tgI_ eM11 (tgI_ eM6 ht1))))))))))))) fl_X11_49 (Nat.le_of_ble_eq_true rfl) dX11_put_98 ?_
  refine vv_iload_n (mi := mX11_put) (pc := 101) 1 dX11_put_101 rfl rfl ?_
  refine vv_iload_n (mi := mX11_put) (pc := 102) 2 dX11_put_102 rfl rfl ?_
  refine vv_if_ne (mi := mX11_put) (pc := 103) 114 dX11_put_103 rfl (fun c67 => ?_) (fun c67 => ?_)
  · replace h := h.1 c67
    refine vv_lconst (mi := mX11_put) (pc := 114) 0 dX11_put_114 rfl ?_
    obtain ⟨aq68, hs69, h⟩ := h
    obtain ⟨ht70, h⟩ := h
    obtain ⟨hi71, h⟩ := h
    obtain ⟨M72, eM72⟩ : ∃ z : Mm, z = suL M66 aq68 (Int32.toNatClampNeg a1) 0 := ⟨_, rfl⟩
    replace h := h _ eM72
    refine vv_last (mi := mX11_put) (pc := 115) hs69 ht70 hi71 dX11_put_115 eM72 ?_
    refine vv_iload_n (mi := mX11_put) (pc := 116) 1 dX11_put_116 rfl rfl ?_
    exact vv_iret (mi := mX11_put) (pc := 117) dX11_put_117 rfl (Nat.le_of_ble_eq_true rfl) (Nat.le_of_ble_eq_true rfl) h
  · replace h := h.2 c67
    refine vv_aload_n (mi := mX11_put) (pc := 106) 0 dX11_put_106 rfl rfl ?_
    refine vv_iload_n (mi := mX11_put) (pc := 107) 1 dX11_put_107 rfl rfl ?_
    refine vv_callV (mi := mX11_put) (pc := 108) (rest := [.inl a1, .inr (.inr (ddR M66 this 15))]) (As := [.inl a1]) (ctX11_numbersOf (X := X) h) dX11_put_108 rfl (tgI_ eM66 (tgI_ eM61 (tgI_ eM56 (tgI_ eM51 (tgI_ eM46 (tgI_ eM41 (tgI_ eM36 (tgI_ eM31 (tgI_ eM26 (tgI_ eM21 (tgI_ eM16 (tgI_ eM11 (tgI_ eM6 ht1))))))))))))) (Nat.le_of_ble_eq_true rfl) rfl mb_X11_numbersOf rfl ml_X11_126 im_X11_numbersOf se_X11_numbersOf ⟨(Nat.le_of_ble_eq_true rfl), (Nat.le_of_ble_eq_true rfl)⟩ ⟨(Nat.le_of_ble_eq_true rfl), (Nat.le_of_ble_eq_true rfl)⟩ (Nat.le_of_ble_eq_true rfl) rfl (kL_ (F := fun st M' => VV X mX11_put rX11_put (pI_ post) 111 [(0, .inr (.inr (some this))), (1, .inl a1), (2, .inl a2), (3, .inl a3), (4, .inl a4), (5, .inl a5), (6, .inl a6), (7, .inl a7), (8, .inl a8), (9, .inl a9)] st M' 0 0) (fun r73 M74 h => ?_))
    refine vv_goto (mi := mX11_put) (pc := 111) 115 dX11_put_111 rfl ?_
    obtain ⟨aq75, hs76, h⟩ := h
    obtain ⟨ht77, h⟩ := h
    obtain ⟨hi78, h⟩ := h
    obtain ⟨M79, eM79⟩ : ∃ z : Mm, z = suL M74 aq75 (Int32.toNatClampNeg a1) r73 := ⟨_, rfl⟩
    replace h := h _ eM79
    refine vv_last (mi := mX11_put) (pc := 115) hs76 ht77 hi78 dX11_put_115 eM79 ?_
    refine vv_iload_n (mi := mX11_put) (pc := 116) 1 dX11_put_116 rfl rfl ?_
    exact vv_iret (mi := mX11_put) (pc := 117) dX11_put_117 rfl (Nat.le_of_ble_eq_true rfl) (Nat.le_of_ble_eq_true rfl) h
set_option maxHeartbeats 4000000 in
set_option maxRecDepth 100000 in
theorem ctX11_add {X : Cx_} {this : Nat} {a1 : Int32} {a2 : Int32} {a3 : Int32} {a4 : Int32} {a5 : Int32} {a6 : Int32} {a7 : Int32} {a8 : Int32} {a9 : Int32} {M : Mm} {post : Int32 → Mm → Prop} (h : PX11_add this a1 a2 a3 a4 a5 a6 a7 a8 a9 M post) : CT X mX11_add rX11_add [.inr (.inr (some this)), .inl a1, .inl a2, .inl a3, .inl a4, .inl a5, .inl a6, .inl a7, .inl a8, .inl a9] M (pI_ post) := by
  unfold PX11_add at h
  refine CT.of (by decide +kernel) (Nat.le_of_ble_eq_true rfl) ?_
  show VV X mX11_add rX11_add (pI_ post) 0 [(0, .inr (.inr (some this))), (1, .inl a1), (2, .inl a2), (3, .inl a3), (4, .inl a4), (5, .inl a5), (6, .inl a6), (7, .inl a7), (8, .inl a8), (9, .inl a9)] [] M 0 0
  refine vv_aload_n (mi := mX11_add) (pc := 0) 0 dX11_add_0 rfl rfl ?_
  refine vv_aload_n (mi := mX11_add) (pc := 1) 0 dX11_add_1 rfl rfl ?_
  obtain ⟨ht1, h⟩ := h
  refine vv_getI (mi := mX11_add) (pc := 2) 11 1 rfl ht1 fl_X11_130 (Nat.le_of_ble_eq_true rfl) dX11_add_2 ?_
  refine vv_iload_n (mi := mX11_add) (pc := 5) 1 dX11_add_5 rfl rfl ?_
  refine vv_iload_n (mi := mX11_add) (pc := 6) 2 dX11_add_6 rfl rfl ?_
  refine vv_iload_n (mi := mX11_add) (pc := 7) 3 dX11_add_7 rfl rfl ?_
  refine vv_iload (mi := mX11_add) (pc := 8) 4 dX11_add_8 rfl ?_
  refine vv_iload (mi := mX11_add) (pc := 10) 5 dX11_add_10 rfl ?_
  refine vv_iload (mi := mX11_add) (pc := 12) 6 dX11_add_12 rfl ?_
  refine vv_iload (mi := mX11_add) (pc := 14) 7 dX11_add_14 rfl ?_
  refine vv_iload (mi := mX11_add) (pc := 16) 8 dX11_add_16 rfl ?_
  refine vv_callV (mi := mX11_add) (pc := 18) (rest := []) (As := [.inl (ddI M this 1), .inl a1, .inl a2, .inl a3, .inl a4, .inl a5, .inl a6, .inl a7, .inl a8]) (ctX11_put (X := X) h) dX11_add_18 rfl ht1 (Nat.le_of_ble_eq_true rfl) rfl mb_X11_put rfl ml_X11_133 im_X11_put se_X11_put ⟨(Nat.le_of_ble_eq_true rfl), (Nat.le_of_ble_eq_true rfl)⟩ ⟨(Nat.le_of_ble_eq_true rfl), (Nat.le_of_ble_eq_true rfl)⟩ (Nat.le_of_ble_eq_true rfl) rfl (kI_ (F := fun st M' => VV X mX11_add rX11_add (pI_ post) 21 [(0, .inr (.inr (some this))), (1, .inl a1), (2, .inl a2), (3, .inl a3), (4, .inl a4), (5, .inl a5), (6, .inl a6), (7, .inl a7), (8, .inl a8), (9, .inl a9)] st M' 0 0) (fun r2 M3 h => ?_))
  refine vv_istore (mi := mX11_add) (pc := 21) [(10, .inl r2), (0, .inr (.inr (some this))), (1, .inl a1), (2, .inl a2), (3, .inl a3), (4, .inl a4), (5, .inl a5), (6, .inl a6), (7, .inl a7), (8, .inl a8), (9, .inl a9)] dX11_add_21 (Nat.le_of_ble_eq_true rfl) rfl ?_
  refine vv_aload_n (mi := mX11_add) (pc := 23) 1 dX11_add_23 rfl rfl ?_
  obtain ⟨ht4, h⟩ := h
  refine vv_getR (mi := mX11_add) (pc := 24) 11 10 rfl ht4 fl_X11_34 (Nat.le_of_ble_eq_true rfl) dX11_add_24 ?_
  refine vv_iload (mi := mX11_add) (pc := 27) 0 dX11_add_27 rfl ?_
  refine vv_iload (mi := mX11_add) (pc := 29) 10 dX11_add_29 rfl ?_
  obtain ⟨aq5, hs6, h⟩ := h
  obtain ⟨ht7, h⟩ := h
  obtain ⟨hi8, h⟩ := h
  obtain ⟨M9, eM9⟩ : ∃ z : Mm, z = suI M3 aq5 (Int32.toNatClampNeg r2) a9 := ⟨_, rfl⟩
  replace h := h _ eM9
  refine vv_iast (mi := mX11_add) (pc := 31) hs6 ht7 hi8 dX11_add_31 eM9 ?_
  refine vv_aload_n (mi := mX11_add) (pc := 32) 1 dX11_add_32 rfl rfl ?_
  refine vv_dup (mi := mX11_add) (pc := 33) dX11_add_33 rfl ?_
  refine vv_getI (mi := mX11_add) (pc := 34) 11 1 rfl (tgI_ eM9 ht4) fl_X11_130 (Nat.le_of_ble_eq_true rfl) dX11_add_34 ?_
  refine vv_iconst (mi := mX11_add) (pc := 37) 1 dX11_add_37 rfl ?_
  refine vv_iadd (mi := mX11_add) (pc := 38) dX11_add_38 ?_
  obtain ⟨M10, eM10⟩ : ∃ z : Mm, z = suI M9 this 1 ((ddI M9 this 1) + 1) := ⟨_, rfl⟩
  replace h := h _ eM10
  refine vv_putI (mi := mX11_add) (pc := 39) 11 1 rfl (tgI_ eM9 ht4) fq_X11_130 (fun q => by cases q) rfl (Nat.le_of_ble_eq_true rfl) dX11_add_39 eM10 ?_
  refine vv_iload (mi := mX11_add) (pc := 42) 0 dX11_add_42 rfl ?_
  exact vv_iret (mi := mX11_add) (pc := 44) dX11_add_44 rfl (Nat.le_of_ble_eq_true rfl) (Nat.le_of_ble_eq_true rfl) h
set_option maxHeartbeats 4000000 in
set_option maxRecDepth 100000 in
theorem ctX11_isFree {X : Cx_} {this : Nat} {a1 : Int32} {M : Mm} {post : Int32 → Mm → Prop} (h : PX11_isFree this a1 M post) : CT X mX11_isFree rX11_isFree [.inr (.inr (some this)), .inl a1] M (pI_ post) := by
  unfold PX11_isFree at h
  refine CT.of (by decide +kernel) (Nat.le_of_ble_eq_true rfl) ?_
  show VV X mX11_isFree rX11_isFree (pI_ post) 0 [(0, .inr (.inr (some this))), (1, .inl a1)] [] M 0 0
  refine vv_iload_n (mi := mX11_isFree) (pc := 0) 1 dX11_isFree_0 rfl rfl ?_
  refine vv_i2l (mi := mX11_isFree) (pc := 1) dX11_isFree_1 ?_
  refine vv_aload_n (mi := mX11_isFree) (pc := 2) 0 dX11_isFree_2 rfl rfl ?_
  obtain ⟨ht1, h⟩ := h
  refine vv_getI (mi := mX11_isFree) (pc := 3) 11 0 rfl ht1 fl_X11_114 (Nat.le_of_ble_eq_true rfl) dX11_isFree_3 ?_
  refine vv_i2l (mi := mX11_isFree) (pc := 6) dX11_isFree_6 ?_
  refine vv_ldc2 (mi := mX11_isFree) (pc := 7) 20000 dX11_isFree_7 kl_X11_108 ?_
  refine vv_callS (mi := mX11_isFree) (pc := 10) (rest := []) (As := [.inr (.inl (Int32.toInt64 a1)), .inr (.inl (Int32.toInt64 (ddI M this 0))), .inr (.inl 20000)]) (ctX11_in (X := X) h) dX11_isFree_10 mb_X11_in rfl ml_X11_110 sc_X11_in ⟨(Nat.le_of_ble_eq_true rfl), (Nat.le_of_ble_eq_true rfl)⟩ ⟨(Nat.le_of_ble_eq_true rfl), (Nat.le_of_ble_eq_true rfl)⟩ (Nat.le_of_ble_eq_true rfl) rfl (kI_ (F := fun st M' => VV X mX11_isFree rX11_isFree (pI_ post) 13 [(0, .inr (.inr (some this))), (1, .inl a1)] st M' 0 0) (fun r2 M3 h => ?_))
  obtain ⟨hz4, h⟩ := h
  exact vv_zret (mi := mX11_isFree) (pc := 13) dX11_isFree_13 rfl hz4 (Nat.le_of_ble_eq_true rfl) (Nat.le_of_ble_eq_true rfl) h
set_option maxHeartbeats 4000000 in
set_option maxRecDepth 100000 in
theorem ctX11_mayBlock {X : Cx_} {this : Nat} {a1 : Int32} {a2 : Int32} {a3 : Int32} {a4 : Int32} {a5 : Int32} {M : Mm} {post : Int32 → Mm → Prop} (h : PX11_mayBlock this a1 a2 a3 a4 a5 M post) : CT X mX11_mayBlock rX11_mayBlock [.inr (.inr (some this)), .inl a1, .inl a2, .inl a3, .inl a4, .inl a5] M (pI_ post) := by
  unfold PX11_mayBlock at h
  refine CT.of (by decide +kernel) (Nat.le_of_ble_eq_true rfl) ?_
  show VV X mX11_mayBlock rX11_mayBlock (pI_ post) 0 [(0, .inr (.inr (some this))), (1, .inl a1), (2, .inl a2), (3, .inl a3), (4, .inl a4), (5, .inl a5)] [] M 0 0
  refine vv_iload_n (mi := mX11_mayBlock) (pc := 0) 1 dX11_mayBlock_0 rfl rfl ?_
  refine vv_i2l (mi := mX11_mayBlock) (pc := 1) dX11_mayBlock_1 ?_
  refine vv_lconst (mi := mX11_mayBlock) (pc := 2) 0 dX11_mayBlock_2 rfl ?_
  refine vv_ldc2 (mi := mX11_mayBlock) (pc := 3) 15 dX11_mayBlock_3 kl_X11_137 ?_
  refine vv_callS (mi := mX11_mayBlock) (pc := 6) (rest := []) (As := [.inr (.inl (Int32.toInt64 a1)), .inr (.inl 0), .inr (.inl 15)]) (ctX11_in (X := X) h) dX11_mayBlock_6 mb_X11_in rfl ml_X11_110 sc_X11_in ⟨(Nat.le_of_ble_eq_true rfl), (Nat.le_of_ble_eq_true rfl)⟩ ⟨(Nat.le_of_ble_eq_true rfl), (Nat.le_of_ble_eq_true rfl)⟩ (Nat.le_of_ble_eq_true rfl) rfl (kI_ (F := fun st M' => VV X mX11_mayBlock rX11_mayBlock (pI_ post) 9 [(0, .inr (.inr (some this))), (1, .inl a1), (2, .inl a2), (3, .inl a3), (4, .inl a4), (5, .inl a5)] st M' 0 0) (fun r1 M2 h => ?_))
  refine vv_if_eq (mi := mX11_mayBlock) (pc := 9) 71 dX11_mayBlock_9 rfl (fun c3 => ?_) (fun c3 => ?_)
  · replace h := h.1 c3
    refine vv_iconst (mi := mX11_mayBlock) (pc := 71) 0 dX11_mayBlock_71 rfl ?_
    exact vv_zret (mi := mX11_mayBlock) (pc := 72) dX11_mayBlock_72 rfl (Or.inl rfl) (Nat.le_of_ble_eq_true rfl) (Nat.le_of_ble_eq_true rfl) h
  · replace h := h.2 c3
    refine vv_iload_n (mi := mX11_mayBlock) (pc := 12) 2 dX11_mayBlock_12 rfl rfl ?_
    refine vv_callS (mi := mX11_mayBlock) (pc := 13) (rest := []) (As := [.inl a2]) (ctX11_lengthOf (X := X) h) dX11_mayBlock_13 mb_X11_lengthOf rfl ml_X11_139 sc_X11_lengthOf ⟨(Nat.le_of_ble_eq_true rfl), (Nat.le_of_ble_eq_true rfl)⟩ ⟨(Nat.le_of_ble_eq_true rfl), (Nat.le_of_ble_eq_true rfl)⟩ (Nat.le_of_ble_eq_true rfl) rfl (kI_ (F := fun st M' => VV X mX11_mayBlock rX11_mayBlock (pI_ post) 16 [(0, .inr (.inr (some this))), (1, .inl a1), (2, .inl a2), (3, .inl a3), (4, .inl a4), (5, .inl a5)] st M' 0 0) (fun r4 M5 h => ?_))
    refine vv_i2l (mi := mX11_mayBlock) (pc := 16) dX11_mayBlock_16 ?_
    refine vv_lconst (mi := mX11_mayBlock) (pc := 17) 1 dX11_mayBlock_17 rfl ?_
    refine vv_ldc2 (mi := mX11_mayBlock) (pc := 18) 7 dX11_mayBlock_18 kl_X11_143 ?_
    refine vv_callS (mi := mX11_mayBlock) (pc := 21) (rest := []) (As := [.inr (.inl (Int32.toInt64 r4)), .inr (.inl 1), .inr (.inl 7)]) (ctX11_in (X := X) h) dX11_mayBlock_21 mb_X11_in rfl ml_X11_110 sc_X11_in ⟨(Nat.le_of_ble_eq_true rfl), (Nat.le_of_ble_eq_true rfl)⟩ ⟨(Nat.le_of_ble_eq_true rfl), (Nat.le_of_ble_eq_true rfl)⟩ (Nat.le_of_ble_eq_true rfl) rfl (kI_ (F := fun st M' => VV X mX11_mayBlock rX11_mayBlock (pI_ post) 24 [(0, .inr (.inr (some this))), (1, .inl a1), (2, .inl a2), (3, .inl a3), (4, .inl a4), (5, .inl a5)] st M' 0 0) (fun r6 M7 h => ?_))
    refine vv_if_eq (mi := mX11_mayBlock) (pc := 24) 71 dX11_mayBlock_24 rfl (fun c8 => ?_) (fun c8 => ?_)
    · replace h := h.1 c8
      refine vv_iconst (mi := mX11_mayBlock) (pc := 71) 0 dX11_mayBlock_71 rfl ?_
      exact vv_zret (mi := mX11_mayBlock) (pc := 72) dX11_mayBlock_72 rfl (Or.inl rfl) (Nat.le_of_ble_eq_true rfl) (Nat.le_of_ble_eq_true rfl) h
    · replace h := h.2 c8
      refine vv_iload_n (mi := mX11_mayBlock) (pc := 27) 3 dX11_mayBlock_27 rfl rfl ?_
      refine vv_i2l (mi := mX11_mayBlock) (pc := 28) dX11_mayBlock_28 ?_
      refine vv_lconst (mi := mX11_mayBlock) (pc := 29) 1 dX11_mayBlock_29 rfl ?_
      refine vv_ldc2 (mi := mX11_mayBlock) (pc := 30) 1023 dX11_mayBlock_30 kl_X11_145 ?_
      refine vv_callS (mi := mX11_mayBlock) (pc := 33) (rest := []) (As := [.inr (.inl (Int32.toInt64 a3)), .inr (.inl 1), .inr (.inl 1023)]) (ctX11_in (X := X) h) dX11_mayBlock_33 mb_X11_in rfl ml_X11_110 sc_X11_in ⟨(Nat.le_of_ble_eq_true rfl), (Nat.le_of_ble_eq_true rfl)⟩ ⟨(Nat.le_of_ble_eq_true rfl), (Nat.le_of_ble_eq_true rfl)⟩ (Nat.le_of_ble_eq_true rfl) rfl (kI_ (F := fun st M' => VV X mX11_mayBlock rX11_mayBlock (pI_ post) 36 [(0, .inr (.inr (some this))), (1, .inl a1), (2, .inl a2), (3, .inl a3), (4, .inl a4), (5, .inl a5)] st M' 0 0) (fun r9 M10 h => ?_))
      refine vv_if_eq (mi := mX11_mayBlock) (pc := 36) 71 dX11_mayBlock_36 rfl (fun c11 => ?_) (fun c11 => ?_)
      · replace h := h.1 c11
        refine vv_iconst (mi := mX11_mayBlock) (pc := 71) 0 dX11_mayBlock_71 rfl ?_
        exact vv_zret (mi := mX11_mayBlock) (pc := 72) dX11_mayBlock_72 rfl (Or.inl rfl) (Nat.le_of_ble_eq_true rfl) (Nat.le_of_ble_eq_true rfl) h
      · replace h := h.2 c11
        refine vv_iload (mi := mX11_mayBlock) (pc := 39) 4 dX11_mayBlock_39 rfl ?_
        refine vv_i2l (mi := mX11_mayBlock) (pc := 41) dX11_mayBlock_41 ?_
        refine vv_iload_n (mi := mX11_mayBlock) (pc := 42) 2 dX11_mayBlock_42 rfl rfl ?_
        refine vv_callS (mi := mX11_mayBlock) (pc := 43) (rest := [.inr (.inl (Int32.toInt64 a4))]) (As := [.inl a2]) (ctX11_lengthOf (X := X) h) dX11_mayBlock_43 mb_X11_lengthOf rfl ml_X11_139 sc_X11_lengthOf ⟨(Nat.le_of_ble_eq_true rfl), (Nat.le_of_ble_eq_true rfl)⟩ ⟨(Nat.le_of_ble_eq_true rfl), (Nat.le_of_ble_eq_true rfl)⟩ (Nat.le_of_ble_eq_true rfl) rfl (kI_ (F := fun st M' => VV X mX11_mayBlock rX11_mayBlock (pI_ post) 46 [(0, .inr (.inr (some this))), (1, .inl a1), (2, .inl a2), (3, .inl a3), (4, .inl a4), (5, .inl a5)] st M' 0 0) (fun r12 M13 h => ?_))
        refine vv_iconst (mi := mX11_mayBlock) (pc := 46) 1 dX11_mayBlock_46 rfl ?_
        refine vv_iadd (mi := mX11_mayBlock) (pc := 47) dX11_mayBlock_47 ?_
        refine vv_i2l (mi := mX11_mayBlock) (pc := 48) dX11_mayBlock_48 ?_
        refine vv_ldc2 (mi := mX11_mayBlock) (pc := 49) 12 dX11_mayBlock_49 kl_X11_147 ?_
        refine vv_callS (mi := mX11_mayBlock) (pc := 52) (rest := []) (As := [.inr (.inl (Int32.toInt64 a4)), .inr (.inl (Int32.toInt64 (r12 + 1))), .inr (.inl 12)]) (ctX11_in (X := X) h) dX11_mayBlock_52 mb_X11_in rfl ml_X11_110 sc_X11_in ⟨(Nat.le_of_ble_eq_true rfl), (Nat.le_of_ble_eq_true rfl)⟩ ⟨(Nat.le_of_ble_eq_true rfl), (Nat.le_of_ble_eq_true rfl)⟩ (Nat.le_of_ble_eq_true rfl) rfl (kI_ (F := fun st M' => VV X mX11_mayBlock rX11_mayBlock (pI_ post) 55 [(0, .inr (.inr (some this))), (1, .inl a1), (2, .inl a2), (3, .inl a3), (4, .inl a4), (5, .inl a5)] st M' 0 0) (fun r14 M15 h => ?_))
        refine vv_if_eq (mi := mX11_mayBlock) (pc := 55) 71 dX11_mayBlock_55 rfl (fun c16 => ?_) (fun c16 => ?_)
        · replace h := h.1 c16
          refine vv_iconst (mi := mX11_mayBlock) (pc := 71) 0 dX11_mayBlock_71 rfl ?_
          exact vv_zret (mi := mX11_mayBlock) (pc := 72) dX11_mayBlock_72 rfl (Or.inl rfl) (Nat.le_of_ble_eq_true rfl) (Nat.le_of_ble_eq_true rfl) h
        · replace h := h.2 c16
          refine vv_aload_n (mi := mX11_mayBlock) (pc := 58) 0 dX11_mayBlock_58 rfl rfl ?_
          refine vv_iload (mi := mX11_mayBlock) (pc := 59) 5 dX11_mayBlock_59 rfl ?_
          obtain ⟨ht17, h⟩ := h
          refine vv_callV (mi := mX11_mayBlock) (pc := 61) (rest := []) (As := [.inl a5]) (ctX11_isFree (X := X) h) dX11_mayBlock_61 rfl ht17 (Nat.le_of_ble_eq_true rfl) rfl mb_X11_isFree rfl ml_X11_149 im_X11_isFree se_X11_isFree ⟨(Nat.le_of_ble_eq_true rfl), (Nat.le_of_ble_eq_true rfl)⟩ ⟨(Nat.le_of_ble_eq_true rfl), (Nat.le_of_ble_eq_true rfl)⟩ (Nat.le_of_ble_eq_true rfl) rfl (kI_ (F := fun st M' => VV X mX11_mayBlock rX11_mayBlock (pI_ post) 64 [(0, .inr (.inr (some this))), (1, .inl a1), (2, .inl a2), (3, .inl a3), (4, .inl a4), (5, .inl a5)] st M' 0 0) (fun r18 M19 h => ?_))
          refine vv_if_eq (mi := mX11_mayBlock) (pc := 64) 71 dX11_mayBlock_64 rfl (fun c20 => ?_) (fun c20 => ?_)
          · replace h := h.1 c20
            refine vv_iconst (mi := mX11_mayBlock) (pc := 71) 0 dX11_mayBlock_71 rfl ?_
            exact vv_zret (mi := mX11_mayBlock) (pc := 72) dX11_mayBlock_72 rfl (Or.inl rfl) (Nat.le_of_ble_eq_true rfl) (Nat.le_of_ble_eq_true rfl) h
          · replace h := h.2 c20
            refine vv_iconst (mi := mX11_mayBlock) (pc := 67) 1 dX11_mayBlock_67 rfl ?_
            refine vv_goto (mi := mX11_mayBlock) (pc := 68) 72 dX11_mayBlock_68 rfl ?_
            exact vv_zret (mi := mX11_mayBlock) (pc := 72) dX11_mayBlock_72 rfl (Or.inr rfl) (Nat.le_of_ble_eq_true rfl) (Nat.le_of_ble_eq_true rfl) h
set_option maxHeartbeats 4000000 in
set_option maxRecDepth 100000 in
theorem ctX11_block {X : Cx_} {this : Nat} {a1 : Int32} {a2 : Int32} {a3 : Int32} {a4 : Int32} {a5 : Int32} {M : Mm} {post : Int32 → Mm → Prop} (h : PX11_block this a1 a2 a3 a4 a5 M post) : CT X mX11_block rX11_block [.inr (.inr (some this)), .inl a1, .inl a2, .inl a3, .inl a4, .inl a5] M (pI_ post) := by
  unfold PX11_block at h
  refine CT.of (by decide +kernel) (Nat.le_of_ble_eq_true rfl) ?_
  show VV X mX11_block rX11_block (pI_ post) 0 [(0, .inr (.inr (some this))), (1, .inl a1), (2, .inl a2), (3, .inl a3), (4, .inl a4), (5, .inl a5)] [] M 0 0
  refine vv_aload_n (mi := mX11_block) (pc := 0) 0 dX11_block_0 rfl rfl ?_
  refine vv_iload_n (mi := mX11_block) (pc := 1) 1 dX11_block_1 rfl rfl ?_
  refine vv_iload_n (mi := mX11_block) (pc := 2) 2 dX11_block_2 rfl rfl ?_
  refine vv_iload_n (mi := mX11_block) (pc := 3) 3 dX11_block_3 rfl rfl ?_
  refine vv_iload (mi := mX11_block) (pc := 4) 4 dX11_block_4 rfl ?_
  refine vv_iload (mi := mX11_block) (pc := 6) 5 dX11_block_6 rfl ?_
  obtain ⟨ht1, h⟩ := h
  refine vv_callV (mi := mX11_block) (pc := 8) (rest := []) (As := [.inl a1, .inl a2, .inl a3, .inl a4, .inl a5]) (ctX11_mayBlock (X := X) h) dX11_block_8 rfl ht1 (Nat.le_of_ble_eq_true rfl) rfl mb_X11_mayBlock rfl ml_X11_153 im_X11_mayBlock se_X11_mayBlock ⟨(Nat.le_of_ble_eq_true rfl), (Nat.le_of_ble_eq_true rfl)⟩ ⟨(Nat.le_of_ble_eq_true rfl), (Nat.le_of_ble_eq_true rfl)⟩ (Nat.le_of_ble_eq_true rfl) rfl (kI_ (F := fun st M' => VV X mX11_block rX11_block (pI_ post) 11 [(0, .inr (.inr (some this))), (1, .inl a1), (2, .inl a2), (3, .inl a3), (4, .inl a4), (5, .inl a5)] st M' 0 0) (fun r2 M3 h => ?_))
  refine vv_if_ne (mi := mX11_block) (pc := 11) 17 dX11_block_11 rfl (fun c4 => ?_) (fun c4 => ?_)
  · replace h := h.1 c4
    refine vv_aload_n (mi := mX11_block) (pc := 17) 0 dX11_block_17 rfl rfl ?_
    obtain ⟨ht5, h⟩ := h
    refine vv_getI (mi := mX11_block) (pc := 18) 11 1 rfl ht5 fl_X11_130 (Nat.le_of_ble_eq_true rfl) dX11_block_18 ?_
    refine vv_bipush (mi := mX11_block) (pc := 21) 120 dX11_block_21 rfl ?_
    refine vv_icmp_ne (mi := mX11_block) (pc := 23) 31 dX11_block_23 rfl (fun c6 => ?_) (fun c6 => ?_)
    · replace h := h.1 c6
      refine vv_aload_n (mi := mX11_block) (pc := 31) 0 dX11_block_31 rfl rfl ?_
      refine vv_iconst (mi := mX11_block) (pc := 32) 0 dX11_block_32 rfl ?_
      refine vv_iload_n (mi := mX11_block) (pc := 33) 1 dX11_block_33 rfl rfl ?_
      refine vv_iload_n (mi := mX11_block) (pc := 34) 2 dX11_block_34 rfl rfl ?_
      refine vv_iload_n (mi := mX11_block) (pc := 35) 3 dX11_block_35 rfl rfl ?_
      refine vv_iload (mi := mX11_block) (pc := 36) 4 dX11_block_36 rfl ?_
      refine vv_iload (mi := mX11_block) (pc := 38) 4 dX11_block_38 rfl ?_
      refine vv_iload (mi := mX11_block) (pc := 40) 5 dX11_block_40 rfl ?_
      refine vv_iconst (mi := mX11_block) (pc := 42) (-1) dX11_block_42 rfl ?_
      refine vv_iconst (mi := mX11_block) (pc := 43) (-1) dX11_block_43 rfl ?_
      refine vv_callV (mi := mX11_block) (pc := 44) (rest := []) (As := [.inl 0, .inl a1, .inl a2, .inl a3, .inl a4, .inl a4, .inl a5, .inl (-1), .inl (-1)]) (ctX11_add (X := X) h) dX11_block_44 rfl ht5 (Nat.le_of_ble_eq_true rfl) rfl mb_X11_add rfl ml_X11_157 im_X11_add se_X11_add ⟨(Nat.le_of_ble_eq_true rfl), (Nat.le_of_ble_eq_true rfl)⟩ ⟨(Nat.le_of_ble_eq_true rfl), (Nat.le_of_ble_eq_true rfl)⟩ (Nat.le_of_ble_eq_true rfl) rfl (kI_ (F := fun st M' => VV X mX11_block rX11_block (pI_ post) 47 [(0, .inr (.inr (some this))), (1, .inl a1), (2, .inl a2), (3, .inl a3), (4, .inl a4), (5, .inl a5)] st M' 0 0) (fun r7 M8 h => ?_))
      exact vv_iret (mi := mX11_block) (pc := 47) dX11_block_47 rfl (Nat.le_of_ble_eq_true rfl) (Nat.le_of_ble_eq_true rfl) h
    · replace h := h.2 c6
      refine vv_bipush (mi := mX11_block) (pc := 26) (-3) dX11_block_26 rfl ?_
      refine vv_goto (mi := mX11_block) (pc := 28) 47 dX11_block_28 rfl ?_
      exact vv_iret (mi := mX11_block) (pc := 47) dX11_block_47 rfl (Nat.le_of_ble_eq_true rfl) (Nat.le_of_ble_eq_true rfl) h
  · replace h := h.2 c4
    refine vv_bipush (mi := mX11_block) (pc := 14) (-2) dX11_block_14 rfl ?_
    exact vv_iret (mi := mX11_block) (pc := 16) dX11_block_16 rfl (Nat.le_of_ble_eq_true rfl) (Nat.le_of_ble_eq_true rfl) h
set_option maxHeartbeats 4000000 in
set_option maxRecDepth 100000 in
theorem ctX11_service {X : Cx_} {this : Nat} {a1 : Int32} {a2 : Int32} {a3 : Int32} {M : Mm} {post : Int32 → Mm → Prop} (h : PX11_service this a1 a2 a3 M post) : CT X mX11_service rX11_service [.inr (.inr (some this)), .inl a1, .inl a2, .inl a3] M (pI_ post) := by
  unfold PX11_service at h
  refine CT.of (by decide +kernel) (Nat.le_of_ble_eq_true rfl) ?_
  show VV X mX11_service rX11_service (pI_ post) 0 [(0, .inr (.inr (some this))), (1, .inl a1), (2, .inl a2), (3, .inl a3)] [] M 0 0
  refine vv_iload_n (mi := mX11_service) (pc := 0) 1 dX11_service_0 rfl rfl ?_
  refine vv_callS (mi := mX11_service) (pc := 1) (rest := []) (As := [.inl a1]) (ctX11_lengthOf (X := X) h) dX11_service_1 mb_X11_lengthOf rfl ml_X11_139 sc_X11_lengthOf ⟨(Nat.le_of_ble_eq_true rfl), (Nat.le_of_ble_eq_true rfl)⟩ ⟨(Nat.le_of_ble_eq_true rfl), (Nat.le_of_ble_eq_true rfl)⟩ (Nat.le_of_ble_eq_true rfl) rfl (kI_ (F := fun st M' => VV X mX11_service rX11_service (pI_ post) 4 [(0, .inr (.inr (some this))), (1, .inl a1), (2, .inl a2), (3, .inl a3)] st M' 0 0) (fun r1 M2 h => ?_))
  refine vv_istore (mi := mX11_service) (pc := 4) [(4, .inl r1), (0, .inr (.inr (some this))), (1, .inl a1), (2, .inl a2), (3, .inl a3)] dX11_service_4 (Nat.le_of_ble_eq_true rfl) rfl ?_
  refine vv_iload (mi := mX11_service) (pc := 6) 0 dX11_service_6 rfl ?_
  refine vv_i2l (mi := mX11_service) (pc := 8) dX11_service_8 ?_
  refine vv_ldc2 (mi := mX11_service) (pc := 9) 2 dX11_service_9 kl_X11_160 ?_
  refine vv_ldc2 (mi := mX11_service) (pc := 12) 7 dX11_service_12 kl_X11_143 ?_
  refine vv_callS (mi := mX11_service) (pc := 15) (rest := []) (As := [.inr (.inl (Int32.toInt64 r1)), .inr (.inl 2), .inr (.inl 7)]) (ctX11_in (X := X) h) dX11_service_15 mb_X11_in rfl ml_X11_110 sc_X11_in ⟨(Nat.le_of_ble_eq_true rfl), (Nat.le_of_ble_eq_true rfl)⟩ ⟨(Nat.le_of_ble_eq_true rfl), (Nat.le_of_ble_eq_true rfl)⟩ (Nat.le_of_ble_eq_true rfl) rfl (kI_ (F := fun st M' => VV X mX11_service rX11_service (pI_ post) 18 [(4, .inl r1), (0, .inr (.inr (some this))), (1, .inl a1), (2, .inl a2), (3, .inl a3)] st M' 0 0) (fun r3 M4 h => ?_))
  refine vv_if_eq (mi := mX11_service) (pc := 18) 41 dX11_service_18 rfl (fun c5 => ?_) (fun c5 => ?_)
  · replace h := h.1 c5
    refine vv_bipush (mi := mX11_service) (pc := 41) (-2) dX11_service_41 rfl ?_
    exact vv_iret (mi := mX11_service) (pc := 43) dX11_service_43 rfl (Nat.le_of_ble_eq_true rfl) (Nat.le_of_ble_eq_true rfl) h
  · replace h := h.2 c5
    refine vv_iload_n (mi := mX11_service) (pc := 21) 3 dX11_service_21 rfl rfl ?_
    refine vv_i2l (mi := mX11_service) (pc := 22) dX11_service_22 ?_
    refine vv_lconst (mi := mX11_service) (pc := 23) 0 dX11_service_23 rfl ?_
    refine vv_ldc2 (mi := mX11_service) (pc := 24) 99 dX11_service_24 kl_X11_162 ?_
    refine vv_callS (mi := mX11_service) (pc := 27) (rest := []) (As := [.inr (.inl (Int32.toInt64 a2)), .inr (.inl 0), .inr (.inl 99)]) (ctX11_in (X := X) h) dX11_service_27 mb_X11_in rfl ml_X11_110 sc_X11_in ⟨(Nat.le_of_ble_eq_true rfl), (Nat.le_of_ble_eq_true rfl)⟩ ⟨(Nat.le_of_ble_eq_true rfl), (Nat.le_of_ble_eq_true rfl)⟩ (Nat.le_of_ble_eq_true rfl) rfl (kI_ (F := fun st M' => VV X mX11_service rX11_service (pI_ post) 30 [(4, .inl r1), (0, .inr (.inr (some this))), (1, .inl a1), (2, .inl a2), (3, .inl a3)] st M' 0 0) (fun r6 M7 h => ?_))
    refine vv_if_eq (mi := mX11_service) (pc := 30) 41 dX11_service_30 rfl (fun c8 => ?_) (fun c8 => ?_)
    · replace h := h.1 c8
      refine vv_bipush (mi := mX11_service) (pc := 41) (-2) dX11_service_41 rfl ?_
      exact vv_iret (mi := mX11_service) (pc := 43) dX11_service_43 rfl (Nat.le_of_ble_eq_true rfl) (Nat.le_of_ble_eq_true rfl) h
    · replace h := h.2 c8
      refine vv_aload_n (mi := mX11_service) (pc := 33) 1 dX11_service_33 rfl rfl ?_
      refine vv_iload_n (mi := mX11_service) (pc := 34) 4 dX11_service_34 rfl rfl ?_
      obtain ⟨ht9, h⟩ := h
      refine vv_callV (mi := mX11_service) (pc := 35) (rest := []) (As := [.inl a3]) (ctX11_isFree (X := X) h) dX11_service_35 rfl ht9 (Nat.le_of_ble_eq_true rfl) rfl mb_X11_isFree rfl ml_X11_149 im_X11_isFree se_X11_isFree ⟨(Nat.le_of_ble_eq_true rfl), (Nat.le_of_ble_eq_true rfl)⟩ ⟨(Nat.le_of_ble_eq_true rfl), (Nat.le_of_ble_eq_true rfl)⟩ (Nat.le_of_ble_eq_true rfl) rfl (kI_ (F := fun st M' => VV X mX11_service rX11_service (pI_ post) 38 [(4, .inl r1), (0, .inr (.inr (some this))), (1, .inl a1), (2, .inl a2), (3, .inl a3)] st M' 0 0) (fun r10 M11 h => ?_))
      refine vv_if_ne (mi := mX11_service) (pc := 38) 44 dX11_service_38 rfl (fun c12 => ?_) (fun c12 => ?_)
      · replace h := h.1 c12
        refine vv_aload_n (mi := mX11_service) (pc := 44) 1 dX11_service_44 rfl rfl ?_
        obtain ⟨ht13, h⟩ := h
        refine vv_getI (mi := mX11_service) (pc := 45) 11 1 rfl ht13 fl_X11_130 (Nat.le_of_ble_eq_true rfl) dX11_service_45 ?_
        refine vv_bipush (mi := mX11_service) (pc := 48) 120 dX11_service_48 rfl ?_
        refine vv_icmp_ne (mi := mX11_service) (pc := 50) 58 dX11_service_50 rfl (fun c14 => ?_) (fun c14 => ?_)
        · replace h := h.1 c14
          refine vv_aload_n (mi := mX11_service) (pc := 58) 1 dX11_service_58 rfl rfl ?_
          refine vv_iconst (mi := mX11_service) (pc := 59) 1 dX11_service_59 rfl ?_
          refine vv_iload_n (mi := mX11_service) (pc := 60) 3 dX11_service_60 rfl rfl ?_
          refine vv_iload_n (mi := mX11_service) (pc := 61) 2 dX11_service_61 rfl rfl ?_
          refine vv_iconst (mi := mX11_service) (pc := 62) 0 dX11_service_62 rfl ?_
          refine vv_iload (mi := mX11_service) (pc := 63) 0 dX11_service_63 rfl ?_
          refine vv_iload (mi := mX11_service) (pc := 65) 0 dX11_service_65 rfl ?_
          refine vv_iload_n (mi := mX11_service) (pc := 67) 4 dX11_service_67 rfl rfl ?_
          refine vv_iconst (mi := mX11_service) (pc := 68) (-1) dX11_service_68 rfl ?_
          refine vv_iconst (mi := mX11_service) (pc := 69) (-1) dX11_service_69 rfl ?_
          refine vv_callV (mi := mX11_service) (pc := 70) (rest := []) (As := [.inl 1, .inl a2, .inl a1, .inl 0, .inl r1, .inl r1, .inl a3, .inl (-1), .inl (-1)]) (ctX11_add (X := X) h) dX11_service_70 rfl ht13 (Nat.le_of_ble_eq_true rfl) rfl mb_X11_add rfl ml_X11_157 im_X11_add se_X11_add ⟨(Nat.le_of_ble_eq_true rfl), (Nat.le_of_ble_eq_true rfl)⟩ ⟨(Nat.le_of_ble_eq_true rfl), (Nat.le_of_ble_eq_true rfl)⟩ (Nat.le_of_ble_eq_true rfl) rfl (kI_ (F := fun st M' => VV X mX11_service rX11_service (pI_ post) 73 [(4, .inl r1), (0, .inr (.inr (some this))), (1, .inl a1), (2, .inl a2), (3, .inl a3)] st M' 0 0) (fun r15 M16 h => ?_))
          exact vv_iret (mi := mX11_service) (pc := 73) dX11_service_73 rfl (Nat.le_of_ble_eq_true rfl) (Nat.le_of_ble_eq_true rfl) h
        · replace h := h.2 c14
          refine vv_bipush (mi := mX11_service) (pc := 53) (-3) dX11_service_53 rfl ?_
          refine vv_goto (mi := mX11_service) (pc := 55) 73 dX11_service_55 rfl ?_
          exact vv_iret (mi := mX11_service) (pc := 73) dX11_service_73 rfl (Nat.le_of_ble_eq_true rfl) (Nat.le_of_ble_eq_true rfl) h
      · replace h := h.2 c12
        refine vv_bipush (mi := mX11_service) (pc := 41) (-2) dX11_service_41 rfl ?_
        exact vv_iret (mi := mX11_service) (pc := 43) dX11_service_43 rfl (Nat.le_of_ble_eq_true rfl) (Nat.le_of_ble_eq_true rfl) h
set_option maxHeartbeats 4000000 in
set_option maxRecDepth 100000 in
theorem ctX11_foreign {X : Cx_} {this : Nat} {a1 : Int32} {a2 : Int32} {a3 : Int32} {a4 : Int32} {M : Mm} {post : Int32 → Mm → Prop} (h : PX11_foreign this a1 a2 a3 a4 M post) : CT X mX11_foreign rX11_foreign [.inr (.inr (some this)), .inl a1, .inl a2, .inl a3, .inl a4] M (pI_ post) := by
  unfold PX11_foreign at h
  refine CT.of (by decide +kernel) (Nat.le_of_ble_eq_true rfl) ?_
  show VV X mX11_foreign rX11_foreign (pI_ post) 0 [(0, .inr (.inr (some this))), (1, .inl a1), (2, .inl a2), (3, .inl a3), (4, .inl a4)] [] M 0 0
  refine vv_iload_n (mi := mX11_foreign) (pc := 0) 1 dX11_foreign_0 rfl rfl ?_
  refine vv_callS (mi := mX11_foreign) (pc := 1) (rest := []) (As := [.inl a1]) (ctX11_lengthOf (X := X) h) dX11_foreign_1 mb_X11_lengthOf rfl ml_X11_139 sc_X11_lengthOf ⟨(Nat.le_of_ble_eq_true rfl), (Nat.le_of_ble_eq_true rfl)⟩ ⟨(Nat.le_of_ble_eq_true rfl), (Nat.le_of_ble_eq_true rfl)⟩ (Nat.le_of_ble_eq_true rfl) rfl (kI_ (F := fun st M' => VV X mX11_foreign rX11_foreign (pI_ post) 4 [(0, .inr (.inr (some this))), (1, .inl a1), (2, .inl a2), (3, .inl a3), (4, .inl a4)] st M' 0 0) (fun r1 M2 h => ?_))
  refine vv_istore (mi := mX11_foreign) (pc := 4) [(5, .inl r1), (0, .inr (.inr (some this))), (1, .inl a1), (2, .inl a2), (3, .inl a3), (4, .inl a4)] dX11_foreign_4 (Nat.le_of_ble_eq_true rfl) rfl ?_
  refine vv_iload (mi := mX11_foreign) (pc := 6) 0 dX11_foreign_6 rfl ?_
  refine vv_i2l (mi := mX11_foreign) (pc := 8) dX11_foreign_8 ?_
  refine vv_lconst (mi := mX11_foreign) (pc := 9) 1 dX11_foreign_9 rfl ?_
  refine vv_ldc2 (mi := mX11_foreign) (pc := 10) 4 dX11_foreign_10 kl_X11_164 ?_
  refine vv_callS (mi := mX11_foreign) (pc := 13) (rest := []) (As := [.inr (.inl (Int32.toInt64 r1)), .inr (.inl 1), .inr (.inl 4)]) (ctX11_in (X := X) h) dX11_foreign_13 mb_X11_in rfl ml_X11_110 sc_X11_in ⟨(Nat.le_of_ble_eq_true rfl), (Nat.le_of_ble_eq_true rfl)⟩ ⟨(Nat.le_of_ble_eq_true rfl), (Nat.le_of_ble_eq_true rfl)⟩ (Nat.le_of_ble_eq_true rfl) rfl (kI_ (F := fun st M' => VV X mX11_foreign rX11_foreign (pI_ post) 16 [(5, .inl r1), (0, .inr (.inr (some this))), (1, .inl a1), (2, .inl a2), (3, .inl a3), (4, .inl a4)] st M' 0 0) (fun r3 M4 h => ?_))
  refine vv_if_eq (mi := mX11_foreign) (pc := 16) 57 dX11_foreign_16 rfl (fun c5 => ?_) (fun c5 => ?_)
  · replace h := h.1 c5
    refine vv_bipush (mi := mX11_foreign) (pc := 57) (-2) dX11_foreign_57 rfl ?_
    exact vv_iret (mi := mX11_foreign) (pc := 59) dX11_foreign_59 rfl (Nat.le_of_ble_eq_true rfl) (Nat.le_of_ble_eq_true rfl) h
  · replace h := h.2 c5
    refine vv_iload_n (mi := mX11_foreign) (pc := 19) 3 dX11_foreign_19 rfl rfl ?_
    refine vv_i2l (mi := mX11_foreign) (pc := 20) dX11_foreign_20 ?_
    refine vv_iload (mi := mX11_foreign) (pc := 21) 0 dX11_foreign_21 rfl ?_
    refine vv_iconst (mi := mX11_foreign) (pc := 23) 1 dX11_foreign_23 rfl ?_
    refine vv_iadd (mi := mX11_foreign) (pc := 24) dX11_foreign_24 ?_
    refine vv_i2l (mi := mX11_foreign) (pc := 25) dX11_foreign_25 ?_
    refine vv_ldc2 (mi := mX11_foreign) (pc := 26) 15 dX11_foreign_26 kl_X11_137 ?_
    refine vv_callS (mi := mX11_foreign) (pc := 29) (rest := []) (As := [.inr (.inl (Int32.toInt64 a2)), .inr (.inl (Int32.toInt64 (r1 + 1))), .inr (.inl 15)]) (ctX11_in (X := X) h) dX11_foreign_29 mb_X11_in rfl ml_X11_110 sc_X11_in ⟨(Nat.le_of_ble_eq_true rfl), (Nat.le_of_ble_eq_true rfl)⟩ ⟨(Nat.le_of_ble_eq_true rfl), (Nat.le_of_ble_eq_true rfl)⟩ (Nat.le_of_ble_eq_true rfl) rfl (kI_ (F := fun st M' => VV X mX11_foreign rX11_foreign (pI_ post) 32 [(5, .inl r1), (0, .inr (.inr (some this))), (1, .inl a1), (2, .inl a2), (3, .inl a3), (4, .inl a4)] st M' 0 0) (fun r6 M7 h => ?_))
    refine vv_if_eq (mi := mX11_foreign) (pc := 32) 57 dX11_foreign_32 rfl (fun c8 => ?_) (fun c8 => ?_)
    · replace h := h.1 c8
      refine vv_bipush (mi := mX11_foreign) (pc := 57) (-2) dX11_foreign_57 rfl ?_
      exact vv_iret (mi := mX11_foreign) (pc := 59) dX11_foreign_59 rfl (Nat.le_of_ble_eq_true rfl) (Nat.le_of_ble_eq_true rfl) h
    · replace h := h.2 c8
      refine vv_iload_n (mi := mX11_foreign) (pc := 35) 4 dX11_foreign_35 rfl rfl ?_
      refine vv_i2l (mi := mX11_foreign) (pc := 36) dX11_foreign_36 ?_
      refine vv_iload_n (mi := mX11_foreign) (pc := 37) 3 dX11_foreign_37 rfl rfl ?_
      refine vv_i2l (mi := mX11_foreign) (pc := 38) dX11_foreign_38 ?_
      refine vv_ldc2 (mi := mX11_foreign) (pc := 39) 15 dX11_foreign_39 kl_X11_137 ?_
      refine vv_callS (mi := mX11_foreign) (pc := 42) (rest := []) (As := [.inr (.inl (Int32.toInt64 a3)), .inr (.inl (Int32.toInt64 a2)), .inr (.inl 15)]) (ctX11_in (X := X) h) dX11_foreign_42 mb_X11_in rfl ml_X11_110 sc_X11_in ⟨(Nat.le_of_ble_eq_true rfl), (Nat.le_of_ble_eq_true rfl)⟩ ⟨(Nat.le_of_ble_eq_true rfl), (Nat.le_of_ble_eq_true rfl)⟩ (Nat.le_of_ble_eq_true rfl) rfl (kI_ (F := fun st M' => VV X mX11_foreign rX11_foreign (pI_ post) 45 [(5, .inl r1), (0, .inr (.inr (some this))), (1, .inl a1), (2, .inl a2), (3, .inl a3), (4, .inl a4)] st M' 0 0) (fun r9 M10 h => ?_))
      refine vv_if_eq (mi := mX11_foreign) (pc := 45) 57 dX11_foreign_45 rfl (fun c11 => ?_) (fun c11 => ?_)
      · replace h := h.1 c11
        refine vv_bipush (mi := mX11_foreign) (pc := 57) (-2) dX11_foreign_57 rfl ?_
        exact vv_iret (mi := mX11_foreign) (pc := 59) dX11_foreign_59 rfl (Nat.le_of_ble_eq_true rfl) (Nat.le_of_ble_eq_true rfl) h
      · replace h := h.2 c11
        refine vv_aload_n (mi := mX11_foreign) (pc := 48) 1 dX11_foreign_48 rfl rfl ?_
        refine vv_iload (mi := mX11_foreign) (pc := 49) 5 dX11_foreign_49 rfl ?_
        obtain ⟨ht12, h⟩ := h
        refine vv_callV (mi := mX11_foreign) (pc := 51) (rest := []) (As := [.inl a4]) (ctX11_isFree (X := X) h) dX11_foreign_51 rfl ht12 (Nat.le_of_ble_eq_true rfl) rfl mb_X11_isFree rfl ml_X11_149 im_X11_isFree se_X11_isFree ⟨(Nat.le_of_ble_eq_true rfl), (Nat.le_of_ble_eq_true rfl)⟩ ⟨(Nat.le_of_ble_eq_true rfl), (Nat.le_of_ble_eq_true rfl)⟩ (Nat.le_of_ble_eq_true rfl) rfl (kI_ (F := fun st M' => VV X mX11_foreign rX11_foreign (pI_ post) 54 [(5, .inl r1), (0, .inr (.inr (some this))), (1, .inl a1), (2, .inl a2), (3, .inl a3), (4, .inl a4)] st M' 0 0) (fun r13 M14 h => ?_))
        refine vv_if_ne (mi := mX11_foreign) (pc := 54) 60 dX11_foreign_54 rfl (fun c15 => ?_) (fun c15 => ?_)
        · replace h := h.1 c15
          refine vv_aload_n (mi := mX11_foreign) (pc := 60) 1 dX11_foreign_60 rfl rfl ?_
          obtain ⟨ht16, h⟩ := h
          refine vv_getI (mi := mX11_foreign) (pc := 61) 11 1 rfl ht16 fl_X11_130 (Nat.le_of_ble_eq_true rfl) dX11_foreign_61 ?_
          refine vv_bipush (mi := mX11_foreign) (pc := 64) 120 dX11_foreign_64 rfl ?_
          refine vv_icmp_ne (mi := mX11_foreign) (pc := 66) 74 dX11_foreign_66 rfl (fun c17 => ?_) (fun c17 => ?_)
          · replace h := h.1 c17
            refine vv_aload_n (mi := mX11_foreign) (pc := 74) 1 dX11_foreign_74 rfl rfl ?_
            refine vv_iconst (mi := mX11_foreign) (pc := 75) 2 dX11_foreign_75 rfl ?_
            refine vv_iconst (mi := mX11_foreign) (pc := 76) (-1) dX11_foreign_76 rfl ?_
            refine vv_iload_n (mi := mX11_foreign) (pc := 77) 2 dX11_foreign_77 rfl rfl ?_
            refine vv_iconst (mi := mX11_foreign) (pc := 78) 0 dX11_foreign_78 rfl ?_
            refine vv_iload_n (mi := mX11_foreign) (pc := 79) 3 dX11_foreign_79 rfl rfl ?_
            refine vv_iload_n (mi := mX11_foreign) (pc := 80) 4 dX11_foreign_80 rfl rfl ?_
            refine vv_iload (mi := mX11_foreign) (pc := 81) 5 dX11_foreign_81 rfl ?_
            refine vv_iconst (mi := mX11_foreign) (pc := 83) (-1) dX11_foreign_83 rfl ?_
            refine vv_iconst (mi := mX11_foreign) (pc := 84) (-1) dX11_foreign_84 rfl ?_
            refine vv_callV (mi := mX11_foreign) (pc := 85) (rest := []) (As := [.inl 2, .inl (-1), .inl a1, .inl 0, .inl a2, .inl a3, .inl a4, .inl (-1), .inl (-1)]) (ctX11_add (X := X) h) dX11_foreign_85 rfl ht16 (Nat.le_of_ble_eq_true rfl) rfl mb_X11_add rfl ml_X11_157 im_X11_add se_X11_add ⟨(Nat.le_of_ble_eq_true rfl), (Nat.le_of_ble_eq_true rfl)⟩ ⟨(Nat.le_of_ble_eq_true rfl), (Nat.le_of_ble_eq_true rfl)⟩ (Nat.le_of_ble_eq_true rfl) rfl (kI_ (F := fun st M' => VV X mX11_foreign rX11_foreign (pI_ post) 88 [(5, .inl r1), (0, .inr (.inr (some this))), (1, .inl a1), (2, .inl a2), (3, .inl a3), (4, .inl a4)] st M' 0 0) (fun r18 M19 h => ?_))
            exact vv_iret (mi := mX11_foreign) (pc := 88) dX11_foreign_88 rfl (Nat.le_of_ble_eq_true rfl) (Nat.le_of_ble_eq_true rfl) h
          · replace h := h.2 c17
            refine vv_bipush (mi := mX11_foreign) (pc := 69) (-3) dX11_foreign_69 rfl ?_
            refine vv_goto (mi := mX11_foreign) (pc := 71) 88 dX11_foreign_71 rfl ?_
            exact vv_iret (mi := mX11_foreign) (pc := 88) dX11_foreign_88 rfl (Nat.le_of_ble_eq_true rfl) (Nat.le_of_ble_eq_true rfl) h
        · replace h := h.2 c15
          refine vv_bipush (mi := mX11_foreign) (pc := 57) (-2) dX11_foreign_57 rfl ?_
          exact vv_iret (mi := mX11_foreign) (pc := 59) dX11_foreign_59 rfl (Nat.le_of_ble_eq_true rfl) (Nat.le_of_ble_eq_true rfl) h
set_option maxHeartbeats 4000000 in
set_option maxRecDepth 100000 in
theorem ctX11_isEntry {X : Cx_} {this : Nat} {a1 : Int32} {M : Mm} {post : Int32 → Mm → Prop} (h : PX11_isEntry this a1 M post) : CT X mX11_isEntry rX11_isEntry [.inr (.inr (some this)), .inl a1] M (pI_ post) := by
  unfold PX11_isEntry at h
  refine CT.of (by decide +kernel) (Nat.le_of_ble_eq_true rfl) ?_
  show VV X mX11_isEntry rX11_isEntry (pI_ post) 0 [(0, .inr (.inr (some this))), (1, .inl a1)] [] M 0 0
  refine vv_iload_n (mi := mX11_isEntry) (pc := 0) 1 dX11_isEntry_0 rfl rfl ?_
  refine vv_i2l (mi := mX11_isEntry) (pc := 1) dX11_isEntry_1 ?_
  refine vv_lconst (mi := mX11_isEntry) (pc := 2) 0 dX11_isEntry_2 rfl ?_
  refine vv_aload_n (mi := mX11_isEntry) (pc := 3) 0 dX11_isEntry_3 rfl rfl ?_
  obtain ⟨ht1, h⟩ := h
  refine vv_getI (mi := mX11_isEntry) (pc := 4) 11 1 rfl ht1 fl_X11_130 (Nat.le_of_ble_eq_true rfl) dX11_isEntry_4 ?_
  refine vv_iconst (mi := mX11_isEntry) (pc := 7) 1 dX11_isEntry_7 rfl ?_
  refine vv_isub (mi := mX11_isEntry) (pc := 8) dX11_isEntry_8 ?_
  refine vv_i2l (mi := mX11_isEntry) (pc := 9) dX11_isEntry_9 ?_
  refine vv_callS (mi := mX11_isEntry) (pc := 10) (rest := []) (As := [.inr (.inl (Int32.toInt64 a1)), .inr (.inl 0), .inr (.inl (Int32.toInt64 ((ddI M this 1) - 1)))]) (ctX11_in (X := X) h) dX11_isEntry_10 mb_X11_in rfl ml_X11_110 sc_X11_in ⟨(Nat.le_of_ble_eq_true rfl), (Nat.le_of_ble_eq_true rfl)⟩ ⟨(Nat.le_of_ble_eq_true rfl), (Nat.le_of_ble_eq_true rfl)⟩ (Nat.le_of_ble_eq_true rfl) rfl (kI_ (F := fun st M' => VV X mX11_isEntry rX11_isEntry (pI_ post) 13 [(0, .inr (.inr (some this))), (1, .inl a1)] st M' 0 0) (fun r2 M3 h => ?_))
  obtain ⟨hz4, h⟩ := h
  exact vv_zret (mi := mX11_isEntry) (pc := 13) dX11_isEntry_13 rfl hz4 (Nat.le_of_ble_eq_true rfl) (Nat.le_of_ble_eq_true rfl) h
set_option maxHeartbeats 4000000 in
set_option maxRecDepth 100000 in
theorem ctX11_isForce {X : Cx_} {this : Nat} {a1 : Int32} {a2 : Int32} {M : Mm} {post : Int32 → Mm → Prop} (h : PX11_isForce this a1 a2 M post) : CT X mX11_isForce rX11_isForce [.inr (.inr (some this)), .inl a1, .inl a2] M (pI_ post) := by
  unfold PX11_isForce at h
  refine CT.of (by decide +kernel) (Nat.le_of_ble_eq_true rfl) ?_
  show VV X mX11_isForce rX11_isForce (pI_ post) 0 [(0, .inr (.inr (some this))), (1, .inl a1), (2, .inl a2)] [] M 0 0
  refine vv_iload_n (mi := mX11_isForce) (pc := 0) 2 dX11_isForce_0 rfl rfl ?_
  refine vv_aload_n (mi := mX11_isForce) (pc := 1) 0 dX11_isForce_1 rfl rfl ?_
  obtain ⟨ht1, h⟩ := h
  refine vv_getR (mi := mX11_isForce) (pc := 2) 11 8 rfl ht1 fl_X11_28 (Nat.le_of_ble_eq_true rfl) dX11_isForce_2 ?_
  refine vv_iload_n (mi := mX11_isForce) (pc := 5) 1 dX11_isForce_5 rfl rfl ?_
  obtain ⟨aq2, hs3, h⟩ := h
  obtain ⟨ht4, h⟩ := h
  obtain ⟨hi5, h⟩ := h
  refine vv_iald (mi := mX11_isForce) (pc := 6) hs3 ht4 hi5 dX11_isForce_6 ?_
  refine vv_icmp_lt (mi := mX11_isForce) (pc := 7) 34 dX11_isForce_7 rfl (fun c6 => ?_) (fun c6 => ?_)
  · replace h := h.1 c6
    refine vv_iconst (mi := mX11_isForce) (pc := 34) 0 dX11_isForce_34 rfl ?_
    exact vv_zret (mi := mX11_isForce) (pc := 35) dX11_isForce_35 rfl (Or.inl rfl) (Nat.le_of_ble_eq_true rfl) (Nat.le_of_ble_eq_true rfl) h
  · replace h := h.2 c6
    refine vv_aload_n (mi := mX11_isForce) (pc := 10) 0 dX11_isForce_10 rfl rfl ?_
    refine vv_getR (mi := mX11_isForce) (pc := 11) 11 9 rfl ht1 fl_X11_31 (Nat.le_of_ble_eq_true rfl) dX11_isForce_11 ?_
    refine vv_iload_n (mi := mX11_isForce) (pc := 14) 1 dX11_isForce_14 rfl rfl ?_
    obtain ⟨aq7, hs8, h⟩ := h
    obtain ⟨ht9, h⟩ := h
    obtain ⟨hi10, h⟩ := h
    refine vv_iald (mi := mX11_isForce) (pc := 15) hs8 ht9 hi10 dX11_isForce_15 ?_
    refine vv_iconst (mi := mX11_isForce) (pc := 16) (-1) dX11_isForce_16 rfl ?_
    refine vv_icmp_eq (mi := mX11_isForce) (pc := 17) 30 dX11_isForce_17 rfl (fun c11 => ?_) (fun c11 => ?_)
    · replace h := h.1 c11
      refine vv_iconst (mi := mX11_isForce) (pc := 30) 1 dX11_isForce_30 rfl ?_
      refine vv_goto (mi := mX11_isForce) (pc := 31) 35 dX11_isForce_31 rfl ?_
      exact vv_zret (mi := mX11_isForce) (pc := 35) dX11_isForce_35 rfl (Or.inr rfl) (Nat.le_of_ble_eq_true rfl) (Nat.le_of_ble_eq_true rfl) h
    · replace h := h.2 c11
      refine vv_iload_n (mi := mX11_isForce) (pc := 20) 2 dX11_isForce_20 rfl rfl ?_
      refine vv_aload_n (mi := mX11_isForce) (pc := 21) 0 dX11_isForce_21 rfl rfl ?_
      refine vv_getR (mi := mX11_isForce) (pc := 22) 11 9 rfl ht1 fl_X11_31 (Nat.le_of_ble_eq_true rfl) dX11_isForce_22 ?_
      refine vv_iload_n (mi := mX11_isForce) (pc := 25) 1 dX11_isForce_25 rfl rfl ?_
      obtain ⟨hi12, h⟩ := h
      refine vv_iald (mi := mX11_isForce) (pc := 26) hs8 ht9 hi12 dX11_isForce_26 ?_
      refine vv_icmp_ge (mi := mX11_isForce) (pc := 27) 34 dX11_isForce_27 rfl (fun c13 => ?_) (fun c13 => ?_)
      · replace h := h.1 c13
        refine vv_iconst (mi := mX11_isForce) (pc := 34) 0 dX11_isForce_34 rfl ?_
        exact vv_zret (mi := mX11_isForce) (pc := 35) dX11_isForce_35 rfl (Or.inl rfl) (Nat.le_of_ble_eq_true rfl) (Nat.le_of_ble_eq_true rfl) h
      · replace h := h.2 c13
        refine vv_iconst (mi := mX11_isForce) (pc := 30) 1 dX11_isForce_30 rfl ?_
        refine vv_goto (mi := mX11_isForce) (pc := 31) 35 dX11_isForce_31 rfl ?_
        exact vv_zret (mi := mX11_isForce) (pc := 35) dX11_isForce_35 rfl (Or.inr rfl) (Nat.le_of_ble_eq_true rfl) (Nat.le_of_ble_eq_true rfl) h
set_option maxHeartbeats 4000000 in
set_option maxRecDepth 100000 in
theorem ctX11_mayEnd {X : Cx_} {this : Nat} {a1 : Int32} {a2 : Int32} {M : Mm} {post : Int32 → Mm → Prop} (h : PX11_mayEnd this a1 a2 M post) : CT X mX11_mayEnd rX11_mayEnd [.inr (.inr (some this)), .inl a1, .inl a2] M (pI_ post) := by
  unfold PX11_mayEnd at h
  refine CT.of (by decide +kernel) (Nat.le_of_ble_eq_true rfl) ?_
  show VV X mX11_mayEnd rX11_mayEnd (pI_ post) 0 [(0, .inr (.inr (some this))), (1, .inl a1), (2, .inl a2)] [] M 0 0
  refine vv_aload_n (mi := mX11_mayEnd) (pc := 0) 0 dX11_mayEnd_0 rfl rfl ?_
  refine vv_iload_n (mi := mX11_mayEnd) (pc := 1) 2 dX11_mayEnd_1 rfl rfl ?_
  obtain ⟨ht1, h⟩ := h
  refine vv_callV (mi := mX11_mayEnd) (pc := 2) (rest := []) (As := [.inl a2]) (ctX11_isFree (X := X) h) dX11_mayEnd_2 rfl ht1 (Nat.le_of_ble_eq_true rfl) rfl mb_X11_isFree rfl ml_X11_149 im_X11_isFree se_X11_isFree ⟨(Nat.le_of_ble_eq_true rfl), (Nat.le_of_ble_eq_true rfl)⟩ ⟨(Nat.le_of_ble_eq_true rfl), (Nat.le_of_ble_eq_true rfl)⟩ (Nat.le_of_ble_eq_true rfl) rfl (kI_ (F := fun st M' => VV X mX11_mayEnd rX11_mayEnd (pI_ post) 5 [(0, .inr (.inr (some this))), (1, .inl a1), (2, .inl a2)] st M' 0 0) (fun r2 M3 h => ?_))
  refine vv_if_eq (mi := mX11_mayEnd) (pc := 5) 42 dX11_mayEnd_5 rfl (fun c4 => ?_) (fun c4 => ?_)
  · replace h := h.1 c4
    refine vv_iconst (mi := mX11_mayEnd) (pc := 42) 0 dX11_mayEnd_42 rfl ?_
    exact vv_zret (mi := mX11_mayEnd) (pc := 43) dX11_mayEnd_43 rfl (Or.inl rfl) (Nat.le_of_ble_eq_true rfl) (Nat.le_of_ble_eq_true rfl) h
  · replace h := h.2 c4
    refine vv_iload_n (mi := mX11_mayEnd) (pc := 8) 2 dX11_mayEnd_8 rfl rfl ?_
    refine vv_aload_n (mi := mX11_mayEnd) (pc := 9) 0 dX11_mayEnd_9 rfl rfl ?_
    obtain ⟨ht5, h⟩ := h
    refine vv_getR (mi := mX11_mayEnd) (pc := 10) 11 8 rfl ht5 fl_X11_28 (Nat.le_of_ble_eq_true rfl) dX11_mayEnd_10 ?_
    refine vv_iload_n (mi := mX11_mayEnd) (pc := 13) 1 dX11_mayEnd_13 rfl rfl ?_
    obtain ⟨aq6, hs7, h⟩ := h
    obtain ⟨ht8, h⟩ := h
    obtain ⟨hi9, h⟩ := h
    refine vv_iald (mi := mX11_mayEnd) (pc := 14) hs7 ht8 hi9 dX11_mayEnd_14 ?_
    refine vv_icmp_le (mi := mX11_mayEnd) (pc := 15) 42 dX11_mayEnd_15 rfl (fun c10 => ?_) (fun c10 => ?_)
    · replace h := h.1 c10
      refine vv_iconst (mi := mX11_mayEnd) (pc := 42) 0 dX11_mayEnd_42 rfl ?_
      exact vv_zret (mi := mX11_mayEnd) (pc := 43) dX11_mayEnd_43 rfl (Or.inl rfl) (Nat.le_of_ble_eq_true rfl) (Nat.le_of_ble_eq_true rfl) h
    · replace h := h.2 c10
      refine vv_aload_n (mi := mX11_mayEnd) (pc := 18) 0 dX11_mayEnd_18 rfl rfl ?_
      refine vv_getR (mi := mX11_mayEnd) (pc := 19) 11 9 rfl ht5 fl_X11_31 (Nat.le_of_ble_eq_true rfl) dX11_mayEnd_19 ?_
      refine vv_iload_n (mi := mX11_mayEnd) (pc := 22) 1 dX11_mayEnd_22 rfl rfl ?_
      obtain ⟨aq11, hs12, h⟩ := h
      obtain ⟨ht13, h⟩ := h
      obtain ⟨hi14, h⟩ := h
      refine vv_iald (mi := mX11_mayEnd) (pc := 23) hs12 ht13 hi14 dX11_mayEnd_23 ?_
      refine vv_iconst (mi := mX11_mayEnd) (pc := 24) (-1) dX11_mayEnd_24 rfl ?_
      refine vv_icmp_eq (mi := mX11_mayEnd) (pc := 25) 38 dX11_mayEnd_25 rfl (fun c15 => ?_) (fun c15 => ?_)
      · replace h := h.1 c15
        refine vv_iconst (mi := mX11_mayEnd) (pc := 38) 1 dX11_mayEnd_38 rfl ?_
        refine vv_goto (mi := mX11_mayEnd) (pc := 39) 43 dX11_mayEnd_39 rfl ?_
        exact vv_zret (mi := mX11_mayEnd) (pc := 43) dX11_mayEnd_43 rfl (Or.inr rfl) (Nat.le_of_ble_eq_true rfl) (Nat.le_of_ble_eq_true rfl) h
      · replace h := h.2 c15
        refine vv_iload_n (mi := mX11_mayEnd) (pc := 28) 2 dX11_mayEnd_28 rfl rfl ?_
        refine vv_aload_n (mi := mX11_mayEnd) (pc := 29) 0 dX11_mayEnd_29 rfl rfl ?_
        refine vv_getR (mi := mX11_mayEnd) (pc := 30) 11 9 rfl ht5 fl_X11_31 (Nat.le_of_ble_eq_true rfl) dX11_mayEnd_30 ?_
        refine vv_iload_n (mi := mX11_mayEnd) (pc := 33) 1 dX11_mayEnd_33 rfl rfl ?_
        obtain ⟨hi16, h⟩ := h
        refine vv_iald (mi := mX11_mayEnd) (pc := 34) hs12 ht13 hi16 dX11_mayEnd_34 ?_
        refine vv_icmp_ge (mi := mX11_mayEnd) (pc := 35) 42 dX11_mayEnd_35 rfl (fun c17 => ?_) (fun c17 => ?_)
        · replace h := h.1 c17
          refine vv_iconst (mi := mX11_mayEnd) (pc := 42) 0 dX11_mayEnd_42 rfl ?_
          exact vv_zret (mi := mX11_mayEnd) (pc := 43) dX11_mayEnd_43 rfl (Or.inl rfl) (Nat.le_of_ble_eq_true rfl) (Nat.le_of_ble_eq_true rfl) h
        · replace h := h.2 c17
          refine vv_iconst (mi := mX11_mayEnd) (pc := 38) 1 dX11_mayEnd_38 rfl ?_
          refine vv_goto (mi := mX11_mayEnd) (pc := 39) 43 dX11_mayEnd_39 rfl ?_
          exact vv_zret (mi := mX11_mayEnd) (pc := 43) dX11_mayEnd_43 rfl (Or.inr rfl) (Nat.le_of_ble_eq_true rfl) (Nat.le_of_ble_eq_true rfl) h
set_option maxHeartbeats 4000000 in
set_option maxRecDepth 100000 in
theorem ctX11_finish {X : Cx_} {this : Nat} {a1 : Int32} {a2 : Int32} {M : Mm} {post : Int32 → Mm → Prop} (h : PX11_finish this a1 a2 M post) : CT X mX11_finish rX11_finish [.inr (.inr (some this)), .inl a1, .inl a2] M (pI_ post) := by
  unfold PX11_finish at h
  refine CT.of (by decide +kernel) (Nat.le_of_ble_eq_true rfl) ?_
  show VV X mX11_finish rX11_finish (pI_ post) 0 [(0, .inr (.inr (some this))), (1, .inl a1), (2, .inl a2)] [] M 0 0
  refine vv_aload_n (mi := mX11_finish) (pc := 0) 0 dX11_finish_0 rfl rfl ?_
  refine vv_iload_n (mi := mX11_finish) (pc := 1) 1 dX11_finish_1 rfl rfl ?_
  obtain ⟨ht1, h⟩ := h
  refine vv_callV (mi := mX11_finish) (pc := 2) (rest := []) (As := [.inl a1]) (ctX11_isEntry (X := X) h) dX11_finish_2 rfl ht1 (Nat.le_of_ble_eq_true rfl) rfl mb_X11_isEntry rfl ml_X11_166 im_X11_isEntry se_X11_isEntry ⟨(Nat.le_of_ble_eq_true rfl), (Nat.le_of_ble_eq_true rfl)⟩ ⟨(Nat.le_of_ble_eq_true rfl), (Nat.le_of_ble_eq_true rfl)⟩ (Nat.le_of_ble_eq_true rfl) rfl (kI_ (F := fun st M' => VV X mX11_finish rX11_finish (pI_ post) 5 [(0, .inr (.inr (some this))), (1, .inl a1), (2, .inl a2)] st M' 0 0) (fun r2 M3 h => ?_))
  refine vv_if_eq (mi := mX11_finish) (pc := 5) 27 dX11_finish_5 rfl (fun c4 => ?_) (fun c4 => ?_)
  · replace h := h.1 c4
    refine vv_bipush (mi := mX11_finish) (pc := 27) (-2) dX11_finish_27 rfl ?_
    exact vv_iret (mi := mX11_finish) (pc := 29) dX11_finish_29 rfl (Nat.le_of_ble_eq_true rfl) (Nat.le_of_ble_eq_true rfl) h
  · replace h := h.2 c4
    refine vv_aload_n (mi := mX11_finish) (pc := 8) 0 dX11_finish_8 rfl rfl ?_
    obtain ⟨ht5, h⟩ := h
    refine vv_getR (mi := mX11_finish) (pc := 9) 11 2 rfl ht5 fl_X11_7 (Nat.le_of_ble_eq_true rfl) dX11_finish_9 ?_
    refine vv_iload_n (mi := mX11_finish) (pc := 12) 1 dX11_finish_12 rfl rfl ?_
    obtain ⟨aq6, hs7, h⟩ := h
    obtain ⟨ht8, h⟩ := h
    obtain ⟨hi9, h⟩ := h
    refine vv_iald (mi := mX11_finish) (pc := 13) hs7 ht8 hi9 dX11_finish_13 ?_
    refine vv_iconst (mi := mX11_finish) (pc := 14) 3 dX11_finish_14 rfl ?_
    refine vv_icmp_eq (mi := mX11_finish) (pc := 15) 27 dX11_finish_15 rfl (fun c10 => ?_) (fun c10 => ?_)
    · replace h := h.1 c10
      refine vv_bipush (mi := mX11_finish) (pc := 27) (-2) dX11_finish_27 rfl ?_
      exact vv_iret (mi := mX11_finish) (pc := 29) dX11_finish_29 rfl (Nat.le_of_ble_eq_true rfl) (Nat.le_of_ble_eq_true rfl) h
    · replace h := h.2 c10
      refine vv_aload_n (mi := mX11_finish) (pc := 18) 0 dX11_finish_18 rfl rfl ?_
      refine vv_iload_n (mi := mX11_finish) (pc := 19) 1 dX11_finish_19 rfl rfl ?_
      refine vv_iload_n (mi := mX11_finish) (pc := 20) 2 dX11_finish_20 rfl rfl ?_
      refine vv_callV (mi := mX11_finish) (pc := 21) (rest := []) (As := [.inl a1, .inl a2]) (ctX11_mayEnd (X := X) h) dX11_finish_21 rfl ht5 (Nat.le_of_ble_eq_true rfl) rfl mb_X11_mayEnd rfl ml_X11_169 im_X11_mayEnd se_X11_mayEnd ⟨(Nat.le_of_ble_eq_true rfl), (Nat.le_of_ble_eq_true rfl)⟩ ⟨(Nat.le_of_ble_eq_true rfl), (Nat.le_of_ble_eq_true rfl)⟩ (Nat.le_of_ble_eq_true rfl) rfl (kI_ (F := fun st M' => VV X mX11_finish rX11_finish (pI_ post) 24 [(0, .inr (.inr (some this))), (1, .inl a1), (2, .inl a2)] st M' 0 0) (fun r11 M12 h => ?_))
      refine vv_if_ne (mi := mX11_finish) (pc := 24) 30 dX11_finish_24 rfl (fun c13 => ?_) (fun c13 => ?_)
      · replace h := h.1 c13
        refine vv_aload_n (mi := mX11_finish) (pc := 30) 0 dX11_finish_30 rfl rfl ?_
        obtain ⟨ht14, h⟩ := h
        refine vv_getR (mi := mX11_finish) (pc := 31) 11 9 rfl ht14 fl_X11_31 (Nat.le_of_ble_eq_true rfl) dX11_finish_31 ?_
        refine vv_iload_n (mi := mX11_finish) (pc := 34) 1 dX11_finish_34 rfl rfl ?_
        refine vv_iload_n (mi := mX11_finish) (pc := 35) 2 dX11_finish_35 rfl rfl ?_
        obtain ⟨aq15, hs16, h⟩ := h
        obtain ⟨ht17, h⟩ := h
        obtain ⟨hi18, h⟩ := h
        obtain ⟨M19, eM19⟩ : ∃ z : Mm, z = suI M12 aq15 (Int32.toNatClampNeg a1) a2 := ⟨_, rfl⟩
        replace h := h _ eM19
        refine vv_iast (mi := mX11_finish) (pc := 36) hs16 ht17 hi18 dX11_finish_36 eM19 ?_
        refine vv_iconst (mi := mX11_finish) (pc := 37) 1 dX11_finish_37 rfl ?_
        exact vv_iret (mi := mX11_finish) (pc := 38) dX11_finish_38 rfl (Nat.le_of_ble_eq_true rfl) (Nat.le_of_ble_eq_true rfl) h
      · replace h := h.2 c13
        refine vv_bipush (mi := mX11_finish) (pc := 27) (-2) dX11_finish_27 rfl ?_
        exact vv_iret (mi := mX11_finish) (pc := 29) dX11_finish_29 rfl (Nat.le_of_ble_eq_true rfl) (Nat.le_of_ble_eq_true rfl) h
set_option maxHeartbeats 4000000 in
set_option maxRecDepth 100000 in
theorem ctX11_mayChange {X : Cx_} {this : Nat} {a1 : Int32} {a2 : Int32} {a3 : Int32} {M : Mm} {post : Int32 → Mm → Prop} (h : PX11_mayChange this a1 a2 a3 M post) : CT X mX11_mayChange rX11_mayChange [.inr (.inr (some this)), .inl a1, .inl a2, .inl a3] M (pI_ post) := by
  unfold PX11_mayChange at h
  refine CT.of (by decide +kernel) (Nat.le_of_ble_eq_true rfl) ?_
  show VV X mX11_mayChange rX11_mayChange (pI_ post) 0 [(0, .inr (.inr (some this))), (1, .inl a1), (2, .inl a2), (3, .inl a3)] [] M 0 0
  refine vv_aload_n (mi := mX11_mayChange) (pc := 0) 0 dX11_mayChange_0 rfl rfl ?_
  refine vv_iload_n (mi := mX11_mayChange) (pc := 1) 1 dX11_mayChange_1 rfl rfl ?_
  obtain ⟨ht1, h⟩ := h
  refine vv_callV (mi := mX11_mayChange) (pc := 2) (rest := []) (As := [.inl a1]) (ctX11_isEntry (X := X) h) dX11_mayChange_2 rfl ht1 (Nat.le_of_ble_eq_true rfl) rfl mb_X11_isEntry rfl ml_X11_166 im_X11_isEntry se_X11_isEntry ⟨(Nat.le_of_ble_eq_true rfl), (Nat.le_of_ble_eq_true rfl)⟩ ⟨(Nat.le_of_ble_eq_true rfl), (Nat.le_of_ble_eq_true rfl)⟩ (Nat.le_of_ble_eq_true rfl) rfl (kI_ (F := fun st M' => VV X mX11_mayChange rX11_mayChange (pI_ post) 5 [(0, .inr (.inr (some this))), (1, .inl a1), (2, .inl a2), (3, .inl a3)] st M' 0 0) (fun r2 M3 h => ?_))
  refine vv_if_eq (mi := mX11_mayChange) (pc := 5) 52 dX11_mayChange_5 rfl (fun c4 => ?_) (fun c4 => ?_)
  · replace h := h.1 c4
    refine vv_iconst (mi := mX11_mayChange) (pc := 52) 0 dX11_mayChange_52 rfl ?_
    exact vv_zret (mi := mX11_mayChange) (pc := 53) dX11_mayChange_53 rfl (Or.inl rfl) (Nat.le_of_ble_eq_true rfl) (Nat.le_of_ble_eq_true rfl) h
  · replace h := h.2 c4
    refine vv_aload_n (mi := mX11_mayChange) (pc := 8) 0 dX11_mayChange_8 rfl rfl ?_
    obtain ⟨ht5, h⟩ := h
    refine vv_getR (mi := mX11_mayChange) (pc := 9) 11 2 rfl ht5 fl_X11_7 (Nat.le_of_ble_eq_true rfl) dX11_mayChange_9 ?_
    refine vv_iload_n (mi := mX11_mayChange) (pc := 12) 1 dX11_mayChange_12 rfl rfl ?_
    obtain ⟨aq6, hs7, h⟩ := h
    obtain ⟨ht8, h⟩ := h
    obtain ⟨hi9, h⟩ := h
    refine vv_iald (mi := mX11_mayChange) (pc := 13) hs7 ht8 hi9 dX11_mayChange_13 ?_
    refine vv_if_ne (mi := mX11_mayChange) (pc := 14) 52 dX11_mayChange_14 rfl (fun c10 => ?_) (fun c10 => ?_)
    · replace h := h.1 c10
      refine vv_iconst (mi := mX11_mayChange) (pc := 52) 0 dX11_mayChange_52 rfl ?_
      exact vv_zret (mi := mX11_mayChange) (pc := 53) dX11_mayChange_53 rfl (Or.inl rfl) (Nat.le_of_ble_eq_true rfl) (Nat.le_of_ble_eq_true rfl) h
    · replace h := h.2 c10
      refine vv_aload_n (mi := mX11_mayChange) (pc := 17) 0 dX11_mayChange_17 rfl rfl ?_
      refine vv_getR (mi := mX11_mayChange) (pc := 18) 11 11 rfl ht5 fl_X11_37 (Nat.le_of_ble_eq_true rfl) dX11_mayChange_18 ?_
      refine vv_iload_n (mi := mX11_mayChange) (pc := 21) 1 dX11_mayChange_21 rfl rfl ?_
      obtain ⟨aq11, hs12, h⟩ := h
      obtain ⟨ht13, h⟩ := h
      obtain ⟨hi14, h⟩ := h
      refine vv_iald (mi := mX11_mayChange) (pc := 22) hs12 ht13 hi14 dX11_mayChange_22 ?_
      refine vv_iconst (mi := mX11_mayChange) (pc := 23) (-1) dX11_mayChange_23 rfl ?_
      refine vv_icmp_ne (mi := mX11_mayChange) (pc := 24) 52 dX11_mayChange_24 rfl (fun c15 => ?_) (fun c15 => ?_)
      · replace h := h.1 c15
        refine vv_iconst (mi := mX11_mayChange) (pc := 52) 0 dX11_mayChange_52 rfl ?_
        exact vv_zret (mi := mX11_mayChange) (pc := 53) dX11_mayChange_53 rfl (Or.inl rfl) (Nat.le_of_ble_eq_true rfl) (Nat.le_of_ble_eq_true rfl) h
      · replace h := h.2 c15
        refine vv_aload_n (mi := mX11_mayChange) (pc := 27) 0 dX11_mayChange_27 rfl rfl ?_
        refine vv_iload_n (mi := mX11_mayChange) (pc := 28) 1 dX11_mayChange_28 rfl rfl ?_
        refine vv_iload_n (mi := mX11_mayChange) (pc := 29) 2 dX11_mayChange_29 rfl rfl ?_
        refine vv_callV (mi := mX11_mayChange) (pc := 30) (rest := []) (As := [.inl a1, .inl a2]) (ctX11_mayEnd (X := X) h) dX11_mayChange_30 rfl ht5 (Nat.le_of_ble_eq_true rfl) rfl mb_X11_mayEnd rfl ml_X11_169 im_X11_mayEnd se_X11_mayEnd ⟨(Nat.le_of_ble_eq_true rfl), (Nat.le_of_ble_eq_true rfl)⟩ ⟨(Nat.le_of_ble_eq_true rfl), (Nat.le_of_ble_eq_true rfl)⟩ (Nat.le_of_ble_eq_true rfl) rfl (kI_ (F := fun st M' => VV X mX11_mayChange rX11_mayChange (pI_ post) 33 [(0, .inr (.inr (some this))), (1, .inl a1), (2, .inl a2), (3, .inl a3)] st M' 0 0) (fun r16 M17 h => ?_))
        refine vv_if_eq (mi := mX11_mayChange) (pc := 33) 52 dX11_mayChange_33 rfl (fun c18 => ?_) (fun c18 => ?_)
        · replace h := h.1 c18
          refine vv_iconst (mi := mX11_mayChange) (pc := 52) 0 dX11_mayChange_52 rfl ?_
          exact vv_zret (mi := mX11_mayChange) (pc := 53) dX11_mayChange_53 rfl (Or.inl rfl) (Nat.le_of_ble_eq_true rfl) (Nat.le_of_ble_eq_true rfl) h
        · replace h := h.2 c18
          refine vv_iload_n (mi := mX11_mayChange) (pc := 36) 3 dX11_mayChange_36 rfl rfl ?_
          refine vv_i2l (mi := mX11_mayChange) (pc := 37) dX11_mayChange_37 ?_
          refine vv_lconst (mi := mX11_mayChange) (pc := 38) 0 dX11_mayChange_38 rfl ?_
          refine vv_ldc2 (mi := mX11_mayChange) (pc := 39) 1000 dX11_mayChange_39 kl_X11_173 ?_
          refine vv_callS (mi := mX11_mayChange) (pc := 42) (rest := []) (As := [.inr (.inl (Int32.toInt64 a3)), .inr (.inl 0), .inr (.inl 1000)]) (ctX11_in (X := X) h) dX11_mayChange_42 mb_X11_in rfl ml_X11_110 sc_X11_in ⟨(Nat.le_of_ble_eq_true rfl), (Nat.le_of_ble_eq_true rfl)⟩ ⟨(Nat.le_of_ble_eq_true rfl), (Nat.le_of_ble_eq_true rfl)⟩ (Nat.le_of_ble_eq_true rfl) rfl (kI_ (F := fun st M' => VV X mX11_mayChange rX11_mayChange (pI_ post) 45 [(0, .inr (.inr (some this))), (1, .inl a1), (2, .inl a2), (3, .inl a3)] st M' 0 0) (fun r19 M20 h => ?_))
          refine vv_if_eq (mi := mX11_mayChange) (pc := 45) 52 dX11_mayChange_45 rfl (fun c21 => ?_) (fun c21 => ?_)
          · replace h := h.1 c21
            refine vv_iconst (mi := mX11_mayChange) (pc := 52) 0 dX11_mayChange_52 rfl ?_
            exact vv_zret (mi := mX11_mayChange) (pc := 53) dX11_mayChange_53 rfl (Or.inl rfl) (Nat.le_of_ble_eq_true rfl) (Nat.le_of_ble_eq_true rfl) h
          · replace h := h.2 c21
            refine vv_iconst (mi := mX11_mayChange) (pc := 48) 1 dX11_mayChange_48 rfl ?_
            refine vv_goto (mi := mX11_mayChange) (pc := 49) 53 dX11_mayChange_49 rfl ?_
            exact vv_zret (mi := mX11_mayChange) (pc := 53) dX11_mayChange_53 rfl (Or.inr rfl) (Nat.le_of_ble_eq_true rfl) (Nat.le_of_ble_eq_true rfl) h
set_option maxHeartbeats 4000000 in
set_option maxRecDepth 100000 in
theorem bX11_park_32 {X : Cx_}  {post : Mm → Prop}  {this : Nat} {x1 : Int32} {x2 : Int32} {x3 : Int32} {x4 : Int32} {s0 : Int32} {M : Mm} (h : BX11_park_32  post this x1 x2 x3 x4 s0 M) : VV X mX11_park rX11_park (pV_ post) 32 [(0, .inr (.inr (some this))), (1, .inl x1), (2, .inl x2), (3, .inl x3), (4, .inl x4)] [.inl s0] M 0 0 := by
  unfold BX11_park_32 at h
  refine vv_istore (mi := mX11_park) (pc := 32) [(7, .inl s0), (0, .inr (.inr (some this))), (1, .inl x1), (2, .inl x2), (3, .inl x3), (4, .inl x4)] dX11_park_32 (Nat.le_of_ble_eq_true rfl) rfl ?_
  refine vv_aload_n (mi := mX11_park) (pc := 34) 1 dX11_park_34 rfl rfl ?_
  refine vv_iconst (mi := mX11_park) (pc := 35) 3 dX11_park_35 rfl ?_
  refine vv_iload_n (mi := mX11_park) (pc := 36) 4 dX11_park_36 rfl rfl ?_
  refine vv_aload_n (mi := mX11_park) (pc := 37) 1 dX11_park_37 rfl rfl ?_
  obtain ⟨ht4, h⟩ := h
  refine vv_getR (mi := mX11_park) (pc := 38) 11 4 rfl ht4 fl_X11_16 (Nat.le_of_ble_eq_true rfl) dX11_park_38 ?_
  refine vv_iload_n (mi := mX11_park) (pc := 41) 2 dX11_park_41 rfl rfl ?_
  obtain ⟨aq5, hs6, h⟩ := h
  obtain ⟨ht7, h⟩ := h
  obtain ⟨hi8, h⟩ := h
  refine vv_iald (mi := mX11_park) (pc := 42) hs6 ht7 hi8 dX11_park_42 ?_
  refine vv_iload_n (mi := mX11_park) (pc := 43) 3 dX11_park_43 rfl rfl ?_
  refine vv_aload_n (mi := mX11_park) (pc := 44) 1 dX11_park_44 rfl rfl ?_
  refine vv_getR (mi := mX11_park) (pc := 45) 11 6 rfl ht4 fl_X11_22 (Nat.le_of_ble_eq_true rfl) dX11_park_45 ?_
  refine vv_iload_n (mi := mX11_park) (pc := 48) 2 dX11_park_48 rfl rfl ?_
  obtain ⟨aq9, hs10, h⟩ := h
  obtain ⟨ht11, h⟩ := h
  obtain ⟨hi12, h⟩ := h
  refine vv_iald (mi := mX11_park) (pc := 49) hs10 ht11 hi12 dX11_park_49 ?_
  refine vv_aload_n (mi := mX11_park) (pc := 50) 1 dX11_park_50 rfl rfl ?_
  refine vv_getR (mi := mX11_park) (pc := 51) 11 6 rfl ht4 fl_X11_22 (Nat.le_of_ble_eq_true rfl) dX11_park_51 ?_
  refine vv_iload_n (mi := mX11_park) (pc := 54) 2 dX11_park_54 rfl rfl ?_
  obtain ⟨hi13, h⟩ := h
  refine vv_iald (mi := mX11_park) (pc := 55) hs10 ht11 hi13 dX11_park_55 ?_
  refine vv_iload (mi := mX11_park) (pc := 56) 5 dX11_park_56 rfl ?_
  refine vv_iload (mi := mX11_park) (pc := 58) 0 dX11_park_58 rfl ?_
  refine vv_iload_n (mi := mX11_park) (pc := 60) 2 dX11_park_60 rfl rfl ?_
  refine vv_callV (mi := mX11_park) (pc := 61) (rest := []) (As := [.inl 3, .inl x3, .inl (ddI M aq5 (Int32.toNatClampNeg x1)), .inl x2, .inl (ddI M aq9 (Int32.toNatClampNeg x1)), .inl (ddI M aq9 (Int32.toNatClampNeg x1)), .inl x4, .inl s0, .inl x1]) (ctX11_add (X := X) h) dX11_park_61 rfl ht4 (Nat.le_of_ble_eq_true rfl) rfl mb_X11_add rfl ml_X11_157 im_X11_add se_X11_add ⟨(Nat.le_of_ble_eq_true rfl), (Nat.le_of_ble_eq_true rfl)⟩ ⟨(Nat.le_of_ble_eq_true rfl), (Nat.le_of_ble_eq_true rfl)⟩ (Nat.le_of_ble_eq_true rfl) rfl (kI_ (F := fun st M' => VV X mX11_park rX11_park (pV_ post) 64 [(7, .inl s0), (0, .inr (.inr (some this))), (1, .inl x1), (2, .inl x2), (3, .inl x3), (4, .inl x4)] st M' 0 0) (fun r14 M15 h => ?_))
  refine vv_istore (mi := mX11_park) (pc := 64) [(8, .inl r14), (7, .inl s0), (0, .inr (.inr (some this))), (1, .inl x1), (2, .inl x2), (3, .inl x3), (4, .inl x4)] dX11_park_64 (Nat.le_of_ble_eq_true rfl) rfl ?_
  exact vv_vret (mi := mX11_park) (pc := 66) dX11_park_66 rfl (Nat.le_of_ble_eq_true rfl) (Nat.le_of_ble_eq_true rfl) h
set_option maxHeartbeats 4000000 in
set_option maxRecDepth 100000 in
theorem ctX11_park {X : Cx_} {this : Nat} {a1 : Int32} {a2 : Int32} {a3 : Int32} {a4 : Int32} {a5 : Int32} {a6 : Int32} {M : Mm} {post : Mm → Prop} (h : PX11_park this a1 a2 a3 a4 a5 a6 M post) : CT X mX11_park rX11_park [.inr (.inr (some this)), .inl a1, .inl a2, .inl a3, .inl a4, .inl a5, .inl a6] M (pV_ post) := by
  unfold PX11_park at h
  refine CT.of (by decide +kernel) (Nat.le_of_ble_eq_true rfl) ?_
  show VV X mX11_park rX11_park (pV_ post) 0 [(0, .inr (.inr (some this))), (1, .inl a1), (2, .inl a2), (3, .inl a3), (4, .inl a4), (5, .inl a5), (6, .inl a6)] [] M 0 0
  refine vv_iload (mi := mX11_park) (pc := 0) 5 dX11_park_0 rfl ?_
  refine vv_if_ne (mi := mX11_park) (pc := 2) 6 dX11_park_2 rfl (fun c1 => ?_) (fun c1 => ?_)
  · replace h := h.1 c1
    refine vv_iload (mi := mX11_park) (pc := 6) 6 dX11_park_6 rfl ?_
    refine vv_iconst (mi := mX11_park) (pc := 8) (-1) dX11_park_8 rfl ?_
    refine vv_icmp_eq (mi := mX11_park) (pc := 9) 22 dX11_park_9 rfl (fun c2 => ?_) (fun c2 => ?_)
    · replace h := h.1 c2
      refine vv_iload (mi := mX11_park) (pc := 22) 4 dX11_park_22 rfl ?_
      refine vv_iload (mi := mX11_park) (pc := 24) 5 dX11_park_24 rfl ?_
      refine vv_iadd (mi := mX11_park) (pc := 26) dX11_park_26 ?_
      refine vv_goto (mi := mX11_park) (pc := 27) 32 dX11_park_27 rfl ?_
      refine vv_sub (mi := mX11_park) [(0, .inr (.inr (some this))), (1, .inl a1), (2, .inl a2), (3, .inl a3), (4, .inl a4)] [0, 1, 2, 3, 4] rfl ?_
      exact bX11_park_32 (X := X)  h
    · replace h := h.2 c2
      refine vv_iload (mi := mX11_park) (pc := 12) 4 dX11_park_12 rfl ?_
      refine vv_iload (mi := mX11_park) (pc := 14) 5 dX11_park_14 rfl ?_
      refine vv_iadd (mi := mX11_park) (pc := 16) dX11_park_16 ?_
      refine vv_iload (mi := mX11_park) (pc := 17) 6 dX11_park_17 rfl ?_
      refine vv_icmp_ge (mi := mX11_park) (pc := 19) 30 dX11_park_19 rfl (fun c3 => ?_) (fun c3 => ?_)
      · replace h := h.1 c3
        refine vv_iload (mi := mX11_park) (pc := 30) 6 dX11_park_30 rfl ?_
        refine vv_sub (mi := mX11_park) [(0, .inr (.inr (some this))), (1, .inl a1), (2, .inl a2), (3, .inl a3), (4, .inl a4)] [0, 1, 2, 3, 4] rfl ?_
        exact bX11_park_32 (X := X)  h
      · replace h := h.2 c3
        refine vv_iload (mi := mX11_park) (pc := 22) 4 dX11_park_22 rfl ?_
        refine vv_iload (mi := mX11_park) (pc := 24) 5 dX11_park_24 rfl ?_
        refine vv_iadd (mi := mX11_park) (pc := 26) dX11_park_26 ?_
        refine vv_goto (mi := mX11_park) (pc := 27) 32 dX11_park_27 rfl ?_
        refine vv_sub (mi := mX11_park) [(0, .inr (.inr (some this))), (1, .inl a1), (2, .inl a2), (3, .inl a3), (4, .inl a4)] [0, 1, 2, 3, 4] rfl ?_
        exact bX11_park_32 (X := X)  h
  · replace h := h.2 c1
    exact vv_vret (mi := mX11_park) (pc := 5) dX11_park_5 rfl (Nat.le_of_ble_eq_true rfl) (Nat.le_of_ble_eq_true rfl) h
set_option maxHeartbeats 4000000 in
set_option maxRecDepth 100000 in
theorem bX11_split_233 {X : Cx_}  {post : Int32 → Mm → Prop}  {this : Nat} {x1 : Int32} {x2 : Int32} {x3 : Int32} {x4 : Int32} {x5 : Int32} {x6 : Int32} {x7 : Int32} {x9 : Int32} {M : Mm} (h : BX11_split_233  post this x1 x2 x3 x4 x5 x6 x7 x9 M) : VV X mX11_split rX11_split (pI_ post) 233 [(0, .inr (.inr (some this))), (1, .inl x1), (2, .inl x2), (3, .inl x3), (4, .inl x4), (5, .inl x5), (6, .inl x6), (7, .inl x7), (9, .inl x9)] [] M 0 0 := by
  unfold BX11_split_233 at h
  refine vv_aload_n (mi := mX11_split) (pc := 233) 0 dX11_split_233 rfl rfl ?_
  refine vv_iconst (mi := mX11_split) (pc := 234) 0 dX11_split_234 rfl ?_
  refine vv_iload (mi := mX11_split) (pc := 235) 4 dX11_split_235 rfl ?_
  refine vv_iload_n (mi := mX11_split) (pc := 237) 3 dX11_split_237 rfl rfl ?_
  refine vv_iload_n (mi := mX11_split) (pc := 238) 2 dX11_split_238 rfl rfl ?_
  refine vv_iload (mi := mX11_split) (pc := 239) 7 dX11_split_239 rfl ?_
  refine vv_iload (mi := mX11_split) (pc := 241) 7 dX11_split_241 rfl ?_
  refine vv_iload (mi := mX11_split) (pc := 243) 5 dX11_split_243 rfl ?_
  refine vv_iload (mi := mX11_split) (pc := 245) 8 dX11_split_245 rfl ?_
  refine vv_iload_n (mi := mX11_split) (pc := 247) 1 dX11_split_247 rfl rfl ?_
  obtain ⟨ht89, h⟩ := h
  refine vv_callV (mi := mX11_split) (pc := 248) (rest := []) (As := [.inl 0, .inl x4, .inl x3, .inl x2, .inl x7, .inl x7, .inl x5, .inl x9, .inl x1]) (ctX11_add (X := X) h) dX11_split_248 rfl ht89 (Nat.le_of_ble_eq_true rfl) rfl mb_X11_add rfl ml_X11_157 im_X11_add se_X11_add ⟨(Nat.le_of_ble_eq_true rfl), (Nat.le_of_ble_eq_true rfl)⟩ ⟨(Nat.le_of_ble_eq_true rfl), (Nat.le_of_ble_eq_true rfl)⟩ (Nat.le_of_ble_eq_true rfl) rfl (kI_ (F := fun st M' => VV X mX11_split rX11_split (pI_ post) 251 [(0, .inr (.inr (some this))), (1, .inl x1), (2, .inl x2), (3, .inl x3), (4, .inl x4), (5, .inl x5), (6, .inl x6), (7, .inl x7), (9, .inl x9)] st M' 0 0) (fun r90 M91 h => ?_))
  refine vv_istore (mi := mX11_split) (pc := 251) [(10, .inl r90), (0, .inr (.inr (some this))), (1, .inl x1), (2, .inl x2), (3, .inl x3), (4, .inl x4), (5, .inl x5), (6, .inl x6), (7, .inl x7), (9, .inl x9)] dX11_split_251 (Nat.le_of_ble_eq_true rfl) rfl ?_
  refine vv_aload_n (mi := mX11_split) (pc := 253) 1 dX11_split_253 rfl rfl ?_
  obtain ⟨ht92, h⟩ := h
  refine vv_getR (mi := mX11_split) (pc := 254) 11 14 rfl ht92 fl_X11_46 (Nat.le_of_ble_eq_true rfl) dX11_split_254 ?_
  refine vv_iload_n (mi := mX11_split) (pc := 257) 2 dX11_split_257 rfl rfl ?_
  refine vv_iload (mi := mX11_split) (pc := 258) 0 dX11_split_258 rfl ?_
  obtain ⟨aq93, hs94, h⟩ := h
  obtain ⟨ht95, h⟩ := h
  obtain ⟨hi96, h⟩ := h
  obtain ⟨M97, eM97⟩ : ∃ z : Mm, z = suI M91 aq93 (Int32.toNatClampNeg x1) r90 := ⟨_, rfl⟩
  replace h := h _ eM97
  refine vv_iast (mi := mX11_split) (pc := 260) hs94 ht95 hi96 dX11_split_260 eM97 ?_
  refine vv_aload_n (mi := mX11_split) (pc := 261) 1 dX11_split_261 rfl rfl ?_
  refine vv_iload_n (mi := mX11_split) (pc := 262) 2 dX11_split_262 rfl rfl ?_
  refine vv_iload_n (mi := mX11_split) (pc := 263) 3 dX11_split_263 rfl rfl ?_
  refine vv_iload (mi := mX11_split) (pc := 264) 0 dX11_split_264 rfl ?_
  refine vv_iload (mi := mX11_split) (pc := 266) 6 dX11_split_266 rfl ?_
  refine vv_iload (mi := mX11_split) (pc := 268) 7 dX11_split_268 rfl ?_
  refine vv_iload (mi := mX11_split) (pc := 270) 9 dX11_split_270 rfl ?_
  refine vv_callV (mi := mX11_split) (pc := 272) (rest := []) (As := [.inl x1, .inl x2, .inl r90, .inl x5, .inl x6, .inl x9]) (ctX11_park (X := X) h) dX11_split_272 rfl (tgI_ eM97 ht92) (Nat.le_of_ble_eq_true rfl) rfl mb_X11_park rfl ml_X11_179 im_X11_park se_X11_park ⟨(Nat.le_of_ble_eq_true rfl), (Nat.le_of_ble_eq_true rfl)⟩ ⟨(Nat.le_of_ble_eq_true rfl), (Nat.le_of_ble_eq_true rfl)⟩ (Nat.le_of_ble_eq_true rfl) rfl (kV_ (F := fun st M' => VV X mX11_split rX11_split (pI_ post) 275 [(10, .inl r90), (0, .inr (.inr (some this))), (1, .inl x1), (2, .inl x2), (3, .inl x3), (4, .inl x4), (5, .inl x5), (6, .inl x6), (7, .inl x7), (9, .inl x9)] st M' 0 0) (fun M99 h => ?_))
  refine vv_iload (mi := mX11_split) (pc := 275) 0 dX11_split_275 rfl ?_
  exact vv_iret (mi := mX11_split) (pc := 277) dX11_split_277 rfl (Nat.le_of_ble_eq_true rfl) (Nat.le_of_ble_eq_true rfl) h
set_option maxHeartbeats 4000000 in
set_option maxRecDepth 100000 in
theorem bX11_split_138 {X : Cx_}  {post : Int32 → Mm → Prop}  {this : Nat} {x1 : Int32} {x2 : Int32} {x3 : Int32} {x4 : Int32} {x5 : Int32} {x6 : Int32} {x7 : Int32} {x8 : Int32} {s0 : Int32} {s1 : Int32} {M : Mm} (h : BX11_split_138  post this x1 x2 x3 x4 x5 x6 x7 x8 s0 s1 M) : VV X mX11_split rX11_split (pI_ post) 138 [(0, .inr (.inr (some this))), (1, .inl x1), (2, .inl x2), (3, .inl x3), (4, .inl x4), (5, .inl x5), (6, .inl x6), (7, .inl x7), (8, .inl x8)] [.inl s1, .inl s0] M 0 0 := by
  unfold BX11_split_138 at h
  refine vv_iadd (mi := mX11_split) (pc := 138) dX11_split_138 ?_
  refine vv_bipush (mi := mX11_split) (pc := 139) 120 dX11_split_139 rfl ?_
  refine vv_icmp_le (mi := mX11_split) (pc := 141) 147 dX11_split_141 rfl (fun c45 => ?_) (fun c45 => ?_)
  · replace h := h.1 c45
    refine vv_aload_n (mi := mX11_split) (pc := 147) 0 dX11_split_147 rfl rfl ?_
    obtain ⟨ht46, h⟩ := h
    refine vv_getR (mi := mX11_split) (pc := 148) 11 9 rfl ht46 fl_X11_31 (Nat.le_of_ble_eq_true rfl) dX11_split_148 ?_
    refine vv_iload_n (mi := mX11_split) (pc := 151) 1 dX11_split_151 rfl rfl ?_
    obtain ⟨aq47, hs48, h⟩ := h
    obtain ⟨ht49, h⟩ := h
    obtain ⟨hi50, h⟩ := h
    refine vv_iald (mi := mX11_split) (pc := 152) hs48 ht49 hi50 dX11_split_152 ?_
    obtain ⟨v51, ev51⟩ : ∃ z : Int32, z = (ddI M aq47 (Int32.toNatClampNeg x1)) := ⟨_, rfl⟩
    refine vv_namI ev51 ?_
    replace h := h _ ev51
    refine vv_istore (mi := mX11_split) (pc := 153) [(9, .inl v51), (0, .inr (.inr (some this))), (1, .inl x1), (2, .inl x2), (3, .inl x3), (4, .inl x4), (5, .inl x5), (6, .inl x6), (7, .inl x7), (8, .inl x8)] dX11_split_153 (Nat.le_of_ble_eq_true rfl) rfl ?_
    refine vv_aload_n (mi := mX11_split) (pc := 155) 1 dX11_split_155 rfl rfl ?_
    refine vv_getR (mi := mX11_split) (pc := 156) 11 9 rfl ht46 fl_X11_31 (Nat.le_of_ble_eq_true rfl) dX11_split_156 ?_
    refine vv_iload_n (mi := mX11_split) (pc := 159) 2 dX11_split_159 rfl rfl ?_
    refine vv_iload (mi := mX11_split) (pc := 160) 6 dX11_split_160 rfl ?_
    obtain ⟨hi52, h⟩ := h
    obtain ⟨M53, eM53⟩ : ∃ z : Mm, z = suI M aq47 (Int32.toNatClampNeg x1) x5 := ⟨_, rfl⟩
    replace h := h _ eM53
    refine vv_iast (mi := mX11_split) (pc := 162) hs48 ht49 hi52 dX11_split_162 eM53 ?_
    refine vv_aload_n (mi := mX11_split) (pc := 163) 1 dX11_split_163 rfl rfl ?_
    refine vv_getR (mi := mX11_split) (pc := 164) 11 11 rfl (tgI_ eM53 ht46) fl_X11_37 (Nat.le_of_ble_eq_true rfl) dX11_split_164 ?_
    refine vv_iload_n (mi := mX11_split) (pc := 167) 2 dX11_split_167 rfl rfl ?_
    refine vv_iload (mi := mX11_split) (pc := 168) 6 dX11_split_168 rfl ?_
    obtain ⟨aq54, hs55, h⟩ := h
    obtain ⟨ht56, h⟩ := h
    obtain ⟨hi57, h⟩ := h
    obtain ⟨M58, eM58⟩ : ∃ z : Mm, z = suI M53 aq54 (Int32.toNatClampNeg x1) x5 := ⟨_, rfl⟩
    replace h := h _ eM58
    refine vv_iast (mi := mX11_split) (pc := 170) hs55 ht56 hi57 dX11_split_170 eM58 ?_
    refine vv_aload_n (mi := mX11_split) (pc := 171) 1 dX11_split_171 rfl rfl ?_
    refine vv_getR (mi := mX11_split) (pc := 172) 11 13 rfl (tgI_ eM58 (tgI_ eM53 ht46)) fl_X11_43 (Nat.le_of_ble_eq_true rfl) dX11_split_172 ?_
    refine vv_iload_n (mi := mX11_split) (pc := 175) 2 dX11_split_175 rfl rfl ?_
    refine vv_iload_n (mi := mX11_split) (pc := 176) 3 dX11_split_176 rfl rfl ?_
    obtain ⟨aq59, hs60, h⟩ := h
    obtain ⟨ht61, h⟩ := h
    obtain ⟨hi62, h⟩ := h
    obtain ⟨M63, eM63⟩ : ∃ z : Mm, z = suI M58 aq59 (Int32.toNatClampNeg x1) x2 := ⟨_, rfl⟩
    replace h := h _ eM63
    refine vv_iast (mi := mX11_split) (pc := 177) hs60 ht61 hi62 dX11_split_177 eM63 ?_
    refine vv_iload (mi := mX11_split) (pc := 178) 9 dX11_split_178 rfl ?_
    refine vv_if_ne (mi := mX11_split) (pc := 180) 233 dX11_split_180 rfl (fun c64 => ?_) (fun c64 => ?_)
    · replace h := h.1 c64
      refine vv_sub (mi := mX11_split) [(0, .inr (.inr (some this))), (1, .inl x1), (2, .inl x2), (3, .inl x3), (4, .inl x4), (5, .inl x5), (6, .inl x6), (7, .inl x7), (9, .inl v51)] [1, 2, 3, 4, 5, 6, 7, 8, 0] rfl ?_
      exact bX11_split_233 (X := X)  h
    · replace h := h.2 c64
      refine vv_aload_n (mi := mX11_split) (pc := 183) 1 dX11_split_183 rfl rfl ?_
      refine vv_getR (mi := mX11_split) (pc := 184) 11 12 rfl (tgI_ eM63 (tgI_ eM58 (tgI_ eM53 ht46))) fl_X11_40 (Nat.le_of_ble_eq_true rfl) dX11_split_184 ?_
      refine vv_iload_n (mi := mX11_split) (pc := 187) 2 dX11_split_187 rfl rfl ?_
      refine vv_aload_n (mi := mX11_split) (pc := 188) 1 dX11_split_188 rfl rfl ?_
      refine vv_iconst (mi := mX11_split) (pc := 189) 0 dX11_split_189 rfl ?_
      refine vv_aload_n (mi := mX11_split) (pc := 190) 1 dX11_split_190 rfl rfl ?_
      refine vv_getR (mi := mX11_split) (pc := 191) 11 3 rfl (tgI_ eM63 (tgI_ eM58 (tgI_ eM53 ht46))) fl_X11_13 (Nat.le_of_ble_eq_true rfl) dX11_split_191 ?_
      refine vv_iload_n (mi := mX11_split) (pc := 194) 2 dX11_split_194 rfl rfl ?_
      obtain ⟨aq65, hs66, h⟩ := h
      obtain ⟨ht67, h⟩ := h
      obtain ⟨hi68, h⟩ := h
      refine vv_iald (mi := mX11_split) (pc := 195) hs66 ht67 hi68 dX11_split_195 ?_
      refine vv_aload_n (mi := mX11_split) (pc := 196) 1 dX11_split_196 rfl rfl ?_
      refine vv_getR (mi := mX11_split) (pc := 197) 11 4 rfl (tgI_ eM63 (tgI_ eM58 (tgI_ eM53 ht46))) fl_X11_16 (Nat.le_of_ble_eq_true rfl) dX11_split_197 ?_
      refine vv_iload_n (mi := mX11_split) (pc := 200) 2 dX11_split_200 rfl rfl ?_
      obtain ⟨aq69, hs70, h⟩ := h
      obtain ⟨ht71, h⟩ := h
      obtain ⟨hi72, h⟩ := h
      refine vv_iald (mi := mX11_split) (pc := 201) hs70 ht71 hi72 dX11_split_201 ?_
      refine vv_aload_n (mi := mX11_split) (pc := 202) 1 dX11_split_202 rfl rfl ?_
      refine vv_getR (mi := mX11_split) (pc := 203) 11 5 rfl (tgI_ eM63 (tgI_ eM58 (tgI_ eM53 ht46))) fl_X11_19 (Nat.le_of_ble_eq_true rfl) dX11_split_203 ?_
      refine vv_iload_n (mi := mX11_split) (pc := 206) 2 dX11_split_206 rfl rfl ?_
      obtain ⟨aq73, hs74, h⟩ := h
      obtain ⟨ht75, h⟩ := h
      obtain ⟨hi76, h⟩ := h
      refine vv_iald (mi := mX11_split) (pc := 207) hs74 ht75 hi76 dX11_split_207 ?_
      refine vv_iload_n (mi := mX11_split) (pc := 208) 3 dX11_split_208 rfl rfl ?_
      refine vv_iconst (mi := mX11_split) (pc := 209) (-1) dX11_split_209 rfl ?_
      refine vv_ixor (mi := mX11_split) (pc := 210) dX11_split_210 ?_
      refine vv_iand (mi := mX11_split) (pc := 211) dX11_split_211 ?_
      refine vv_aload_n (mi := mX11_split) (pc := 212) 1 dX11_split_212 rfl rfl ?_
      refine vv_getR (mi := mX11_split) (pc := 213) 11 6 rfl (tgI_ eM63 (tgI_ eM58 (tgI_ eM53 ht46))) fl_X11_22 (Nat.le_of_ble_eq_true rfl) dX11_split_213 ?_
      refine vv_iload_n (mi := mX11_split) (pc := 216) 2 dX11_split_216 rfl rfl ?_
      obtain ⟨aq77, hs78, h⟩ := h
      obtain ⟨ht79, h⟩ := h
      obtain ⟨hi80, h⟩ := h
      refine vv_iald (mi := mX11_split) (pc := 217) hs78 ht79 hi80 dX11_split_217 ?_
      refine vv_aload_n (mi := mX11_split) (pc := 218) 1 dX11_split_218 rfl rfl ?_
      refine vv_getR (mi := mX11_split) (pc := 219) 11 6 rfl (tgI_ eM63 (tgI_ eM58 (tgI_ eM53 ht46))) fl_X11_22 (Nat.le_of_ble_eq_true rfl) dX11_split_219 ?_
      refine vv_iload_n (mi := mX11_split) (pc := 222) 2 dX11_split_222 rfl rfl ?_
      obtain ⟨hi81, h⟩ := h
      refine vv_iald (mi := mX11_split) (pc := 223) hs78 ht79 hi81 dX11_split_223 ?_
      refine vv_iload (mi := mX11_split) (pc := 224) 6 dX11_split_224 rfl ?_
      refine vv_iload (mi := mX11_split) (pc := 226) 0 dX11_split_226 rfl ?_
      refine vv_iload_n (mi := mX11_split) (pc := 228) 2 dX11_split_228 rfl rfl ?_
      refine vv_callV (mi := mX11_split) (pc := 229) (rest := [.inl x1, .inr (.inr (ddR M63 this 12))]) (As := [.inl 0, .inl (ddI M63 aq65 (Int32.toNatClampNeg x1)), .inl (ddI M63 aq69 (Int32.toNatClampNeg x1)), .inl ((ddI M63 aq73 (Int32.toNatClampNeg x1)) &&& (x2 ^^^ (-1))), .inl (ddI M63 aq77 (Int32.toNatClampNeg x1)), .inl (ddI M63 aq77 (Int32.toNatClampNeg x1)), .inl x5, .inl v51, .inl x1]) (ctX11_add (X := X) h) dX11_split_229 rfl (tgI_ eM63 (tgI_ eM58 (tgI_ eM53 ht46))) (Nat.le_of_ble_eq_true rfl) rfl mb_X11_add rfl ml_X11_157 im_X11_add se_X11_add ⟨(Nat.le_of_ble_eq_true rfl), (Nat.le_of_ble_eq_true rfl)⟩ ⟨(Nat.le_of_ble_eq_true rfl), (Nat.le_of_ble_eq_true rfl)⟩ (Nat.le_of_ble_eq_true rfl) rfl (kI_ (F := fun st M' => VV X mX11_split rX11_split (pI_ post) 232 [(9, .inl v51), (0, .inr (.inr (some this))), (1, .inl x1), (2, .inl x2), (3, .inl x3), (4, .inl x4), (5, .inl x5), (6, .inl x6), (7, .inl x7), (8, .inl x8)] st M' 0 0) (fun r82 M83 h => ?_))
      obtain ⟨aq84, hs85, h⟩ := h
      obtain ⟨ht86, h⟩ := h
      obtain ⟨hi87, h⟩ := h
      obtain ⟨M88, eM88⟩ : ∃ z : Mm, z = suI M83 aq84 (Int32.toNatClampNeg x1) r82 := ⟨_, rfl⟩
      replace h := h _ eM88
      refine vv_iast (mi := mX11_split) (pc := 232) hs85 ht86 hi87 dX11_split_232 eM88 ?_
      refine vv_sub (mi := mX11_split) [(0, .inr (.inr (some this))), (1, .inl x1), (2, .inl x2), (3, .inl x3), (4, .inl x4), (5, .inl x5), (6, .inl x6), (7, .inl x7), (9, .inl v51)] [1, 2, 3, 4, 5, 6, 7, 8, 0] rfl ?_
      exact bX11_split_233 (X := X)  h
  · replace h := h.2 c45
    refine vv_bipush (mi := mX11_split) (pc := 144) (-3) dX11_split_144 rfl ?_
    exact vv_iret (mi := mX11_split) (pc := 146) dX11_split_146 rfl (Nat.le_of_ble_eq_true rfl) (Nat.le_of_ble_eq_true rfl) h
set_option maxHeartbeats 4000000 in
set_option maxRecDepth 100000 in
theorem bX11_split_109 {X : Cx_}  {post : Int32 → Mm → Prop}  {this : Nat} {x1 : Int32} {x2 : Int32} {x3 : Int32} {x4 : Int32} {x5 : Int32} {x6 : Int32} {x7 : Int32} {s0 : Int32} {M : Mm} (h : BX11_split_109  post this x1 x2 x3 x4 x5 x6 x7 s0 M) : VV X mX11_split rX11_split (pI_ post) 109 [(0, .inr (.inr (some this))), (1, .inl x1), (2, .inl x2), (3, .inl x3), (4, .inl x4), (5, .inl x5), (6, .inl x6), (7, .inl x7)] [.inl s0] M 0 0 := by
  unfold BX11_split_109 at h
  refine vv_istore (mi := mX11_split) (pc := 109) [(8, .inl s0), (0, .inr (.inr (some this))), (1, .inl x1), (2, .inl x2), (3, .inl x3), (4, .inl x4), (5, .inl x5), (6, .inl x6), (7, .inl x7)] dX11_split_109 (Nat.le_of_ble_eq_true rfl) rfl ?_
  refine vv_aload_n (mi := mX11_split) (pc := 111) 1 dX11_split_111 rfl rfl ?_
  obtain ⟨ht41, h⟩ := h
  refine vv_getI (mi := mX11_split) (pc := 112) 11 1 rfl ht41 fl_X11_130 (Nat.le_of_ble_eq_true rfl) dX11_split_112 ?_
  refine vv_iload (mi := mX11_split) (pc := 115) 0 dX11_split_115 rfl ?_
  refine vv_if_eq (mi := mX11_split) (pc := 117) 124 dX11_split_117 rfl (fun c42 => ?_) (fun c42 => ?_)
  · replace h := h.1 c42
    refine vv_iconst (mi := mX11_split) (pc := 124) 1 dX11_split_124 rfl ?_
    refine vv_iadd (mi := mX11_split) (pc := 125) dX11_split_125 ?_
    refine vv_iconst (mi := mX11_split) (pc := 126) 1 dX11_split_126 rfl ?_
    refine vv_iadd (mi := mX11_split) (pc := 127) dX11_split_127 ?_
    refine vv_iload (mi := mX11_split) (pc := 128) 7 dX11_split_128 rfl ?_
    refine vv_if_le (mi := mX11_split) (pc := 130) 137 dX11_split_130 rfl (fun c43 => ?_) (fun c43 => ?_)
    · replace h := h.1 c43
      refine vv_iconst (mi := mX11_split) (pc := 137) 0 dX11_split_137 rfl ?_
      refine vv_sub (mi := mX11_split) [(0, .inr (.inr (some this))), (1, .inl x1), (2, .inl x2), (3, .inl x3), (4, .inl x4), (5, .inl x5), (6, .inl x6), (7, .inl x7), (8, .inl s0)] [1, 2, 3, 4, 5, 6, 7, 8, 0] rfl ?_
      exact bX11_split_138 (X := X)  h
    · replace h := h.2 c43
      refine vv_iconst (mi := mX11_split) (pc := 133) 1 dX11_split_133 rfl ?_
      refine vv_goto (mi := mX11_split) (pc := 134) 138 dX11_split_134 rfl ?_
      refine vv_sub (mi := mX11_split) [(0, .inr (.inr (some this))), (1, .inl x1), (2, .inl x2), (3, .inl x3), (4, .inl x4), (5, .inl x5), (6, .inl x6), (7, .inl x7), (8, .inl s0)] [1, 2, 3, 4, 5, 6, 7, 8, 0] rfl ?_
      exact bX11_split_138 (X := X)  h
  · replace h := h.2 c42
    refine vv_iconst (mi := mX11_split) (pc := 120) 0 dX11_split_120 rfl ?_
    refine vv_goto (mi := mX11_split) (pc := 121) 125 dX11_split_121 rfl ?_
    refine vv_iadd (mi := mX11_split) (pc := 125) dX11_split_125 ?_
    refine vv_iconst (mi := mX11_split) (pc := 126) 1 dX11_split_126 rfl ?_
    refine vv_iadd (mi := mX11_split) (pc := 127) dX11_split_127 ?_
    refine vv_iload (mi := mX11_split) (pc := 128) 7 dX11_split_128 rfl ?_
    refine vv_if_le (mi := mX11_split) (pc := 130) 137 dX11_split_130 rfl (fun c44 => ?_) (fun c44 => ?_)
    · replace h := h.1 c44
      refine vv_iconst (mi := mX11_split) (pc := 137) 0 dX11_split_137 rfl ?_
      refine vv_sub (mi := mX11_split) [(0, .inr (.inr (some this))), (1, .inl x1), (2, .inl x2), (3, .inl x3), (4, .inl x4), (5, .inl x5), (6, .inl x6), (7, .inl x7), (8, .inl s0)] [1, 2, 3, 4, 5, 6, 7, 8, 0] rfl ?_
      exact bX11_split_138 (X := X)  h
    · replace h := h.2 c44
      refine vv_iconst (mi := mX11_split) (pc := 133) 1 dX11_split_133 rfl ?_
      refine vv_goto (mi := mX11_split) (pc := 134) 138 dX11_split_134 rfl ?_
      refine vv_sub (mi := mX11_split) [(0, .inr (.inr (some this))), (1, .inl x1), (2, .inl x2), (3, .inl x3), (4, .inl x4), (5, .inl x5), (6, .inl x6), (7, .inl x7), (8, .inl s0)] [1, 2, 3, 4, 5, 6, 7, 8, 0] rfl ?_
      exact bX11_split_138 (X := X)  h
set_option maxHeartbeats 4000000 in
set_option maxRecDepth 100000 in
theorem ctX11_split {X : Cx_} {this : Nat} {a1 : Int32} {a2 : Int32} {a3 : Int32} {a4 : Int32} {a5 : Int32} {a6 : Int32} {M : Mm} {post : Int32 → Mm → Prop} (h : PX11_split this a1 a2 a3 a4 a5 a6 M post) : CT X mX11_split rX11_split [.inr (.inr (some this)), .inl a1, .inl a2, .inl a3, .inl a4, .inl a5, .inl a6] M (pI_ post) := by
  unfold PX11_split at h
  refine CT.of (by decide +kernel) (Nat.le_of_ble_eq_true rfl) ?_
  show VV X mX11_split rX11_split (pI_ post) 0 [(0, .inr (.inr (some this))), (1, .inl a1), (2, .inl a2), (3, .inl a3), (4, .inl a4), (5, .inl a5), (6, .inl a6)] [] M 0 0
  refine vv_aload_n (mi := mX11_split) (pc := 0) 0 dX11_split_0 rfl rfl ?_
  refine vv_iload_n (mi := mX11_split) (pc := 1) 1 dX11_split_1 rfl rfl ?_
  refine vv_iload (mi := mX11_split) (pc := 2) 5 dX11_split_2 rfl ?_
  refine vv_iload (mi := mX11_split) (pc := 4) 6 dX11_split_4 rfl ?_
  obtain ⟨ht1, h⟩ := h
  refine vv_callV (mi := mX11_split) (pc := 6) (rest := []) (As := [.inl a1, .inl a5, .inl a6]) (ctX11_mayChange (X := X) h) dX11_split_6 rfl ht1 (Nat.le_of_ble_eq_true rfl) rfl mb_X11_mayChange rfl ml_X11_175 im_X11_mayChange se_X11_mayChange ⟨(Nat.le_of_ble_eq_true rfl), (Nat.le_of_ble_eq_true rfl)⟩ ⟨(Nat.le_of_ble_eq_true rfl), (Nat.le_of_ble_eq_true rfl)⟩ (Nat.le_of_ble_eq_true rfl) rfl (kI_ (F := fun st M' => VV X mX11_split rX11_split (pI_ post) 9 [(0, .inr (.inr (some this))), (1, .inl a1), (2, .inl a2), (3, .inl a3), (4, .inl a4), (5, .inl a5), (6, .inl a6)] st M' 0 0) (fun r2 M3 h => ?_))
  refine vv_if_eq (mi := mX11_split) (pc := 9) 58 dX11_split_9 rfl (fun c4 => ?_) (fun c4 => ?_)
  · replace h := h.1 c4
    refine vv_bipush (mi := mX11_split) (pc := 58) (-2) dX11_split_58 rfl ?_
    exact vv_iret (mi := mX11_split) (pc := 60) dX11_split_60 rfl (Nat.le_of_ble_eq_true rfl) (Nat.le_of_ble_eq_true rfl) h
  · replace h := h.2 c4
    refine vv_iload_n (mi := mX11_split) (pc := 12) 2 dX11_split_12 rfl rfl ?_
    refine vv_iconst (mi := mX11_split) (pc := 13) 1 dX11_split_13 rfl ?_
    refine vv_icmp_lt (mi := mX11_split) (pc := 14) 58 dX11_split_14 rfl (fun c5 => ?_) (fun c5 => ?_)
    · replace h := h.1 c5
      refine vv_bipush (mi := mX11_split) (pc := 58) (-2) dX11_split_58 rfl ?_
      exact vv_iret (mi := mX11_split) (pc := 60) dX11_split_60 rfl (Nat.le_of_ble_eq_true rfl) (Nat.le_of_ble_eq_true rfl) h
    · replace h := h.2 c5
      refine vv_iload_n (mi := mX11_split) (pc := 17) 2 dX11_split_17 rfl rfl ?_
      refine vv_aload_n (mi := mX11_split) (pc := 18) 0 dX11_split_18 rfl rfl ?_
      obtain ⟨ht6, h⟩ := h
      refine vv_getR (mi := mX11_split) (pc := 19) 11 5 rfl ht6 fl_X11_19 (Nat.le_of_ble_eq_true rfl) dX11_split_19 ?_
      refine vv_iload_n (mi := mX11_split) (pc := 22) 1 dX11_split_22 rfl rfl ?_
      obtain ⟨aq7, hs8, h⟩ := h
      obtain ⟨ht9, h⟩ := h
      obtain ⟨hi10, h⟩ := h
      refine vv_iald (mi := mX11_split) (pc := 23) hs8 ht9 hi10 dX11_split_23 ?_
      refine vv_iconst (mi := mX11_split) (pc := 24) (-1) dX11_split_24 rfl ?_
      refine vv_ixor (mi := mX11_split) (pc := 25) dX11_split_25 ?_
      refine vv_iand (mi := mX11_split) (pc := 26) dX11_split_26 ?_
      refine vv_if_ne (mi := mX11_split) (pc := 27) 58 dX11_split_27 rfl (fun c11 => ?_) (fun c11 => ?_)
      · replace h := h.1 c11
        refine vv_bipush (mi := mX11_split) (pc := 58) (-2) dX11_split_58 rfl ?_
        exact vv_iret (mi := mX11_split) (pc := 60) dX11_split_60 rfl (Nat.le_of_ble_eq_true rfl) (Nat.le_of_ble_eq_true rfl) h
      · replace h := h.2 c11
        refine vv_iload_n (mi := mX11_split) (pc := 30) 3 dX11_split_30 rfl rfl ?_
        refine vv_callS (mi := mX11_split) (pc := 31) (rest := []) (As := [.inl a3]) (ctX11_lengthOf (X := X) h) dX11_split_31 mb_X11_lengthOf rfl ml_X11_139 sc_X11_lengthOf ⟨(Nat.le_of_ble_eq_true rfl), (Nat.le_of_ble_eq_true rfl)⟩ ⟨(Nat.le_of_ble_eq_true rfl), (Nat.le_of_ble_eq_true rfl)⟩ (Nat.le_of_ble_eq_true rfl) rfl (kI_ (F := fun st M' => VV X mX11_split rX11_split (pI_ post) 34 [(0, .inr (.inr (some this))), (1, .inl a1), (2, .inl a2), (3, .inl a3), (4, .inl a4), (5, .inl a5), (6, .inl a6)] st M' 0 0) (fun r12 M13 h => ?_))
        refine vv_i2l (mi := mX11_split) (pc := 34) dX11_split_34 ?_
        refine vv_lconst (mi := mX11_split) (pc := 35) 1 dX11_split_35 rfl ?_
        refine vv_ldc2 (mi := mX11_split) (pc := 36) 7 dX11_split_36 kl_X11_143 ?_
        refine vv_callS (mi := mX11_split) (pc := 39) (rest := []) (As := [.inr (.inl (Int32.toInt64 r12)), .inr (.inl 1), .inr (.inl 7)]) (ctX11_in (X := X) h) dX11_split_39 mb_X11_in rfl ml_X11_110 sc_X11_in ⟨(Nat.le_of_ble_eq_true rfl), (Nat.le_of_ble_eq_true rfl)⟩ ⟨(Nat.le_of_ble_eq_true rfl), (Nat.le_of_ble_eq_true rfl)⟩ (Nat.le_of_ble_eq_true rfl) rfl (kI_ (F := fun st M' => VV X mX11_split rX11_split (pI_ post) 42 [(0, .inr (.inr (some this))), (1, .inl a1), (2, .inl a2), (3, .inl a3), (4, .inl a4), (5, .inl a5), (6, .inl a6)] st M' 0 0) (fun r14 M15 h => ?_))
        refine vv_if_eq (mi := mX11_split) (pc := 42) 58 dX11_split_42 rfl (fun c16 => ?_) (fun c16 => ?_)
        · replace h := h.1 c16
          refine vv_bipush (mi := mX11_split) (pc := 58) (-2) dX11_split_58 rfl ?_
          exact vv_iret (mi := mX11_split) (pc := 60) dX11_split_60 rfl (Nat.le_of_ble_eq_true rfl) (Nat.le_of_ble_eq_true rfl) h
        · replace h := h.2 c16
          refine vv_iload (mi := mX11_split) (pc := 45) 4 dX11_split_45 rfl ?_
          refine vv_i2l (mi := mX11_split) (pc := 47) dX11_split_47 ?_
          refine vv_lconst (mi := mX11_split) (pc := 48) 0 dX11_split_48 rfl ?_
          refine vv_ldc2 (mi := mX11_split) (pc := 49) 15 dX11_split_49 kl_X11_137 ?_
          refine vv_callS (mi := mX11_split) (pc := 52) (rest := []) (As := [.inr (.inl (Int32.toInt64 a4)), .inr (.inl 0), .inr (.inl 15)]) (ctX11_in (X := X) h) dX11_split_52 mb_X11_in rfl ml_X11_110 sc_X11_in ⟨(Nat.le_of_ble_eq_true rfl), (Nat.le_of_ble_eq_true rfl)⟩ ⟨(Nat.le_of_ble_eq_true rfl), (Nat.le_of_ble_eq_true rfl)⟩ (Nat.le_of_ble_eq_true rfl) rfl (kI_ (F := fun st M' => VV X mX11_split rX11_split (pI_ post) 55 [(0, .inr (.inr (some this))), (1, .inl a1), (2, .inl a2), (3, .inl a3), (4, .inl a4), (5, .inl a5), (6, .inl a6)] st M' 0 0) (fun r17 M18 h => ?_))
          refine vv_if_ne (mi := mX11_split) (pc := 55) 61 dX11_split_55 rfl (fun c19 => ?_) (fun c19 => ?_)
          · replace h := h.1 c19
            refine vv_iload_n (mi := mX11_split) (pc := 61) 3 dX11_split_61 rfl rfl ?_
            refine vv_callS (mi := mX11_split) (pc := 62) (rest := []) (As := [.inl a3]) (ctX11_lengthOf (X := X) h) dX11_split_62 mb_X11_lengthOf rfl ml_X11_139 sc_X11_lengthOf ⟨(Nat.le_of_ble_eq_true rfl), (Nat.le_of_ble_eq_true rfl)⟩ ⟨(Nat.le_of_ble_eq_true rfl), (Nat.le_of_ble_eq_true rfl)⟩ (Nat.le_of_ble_eq_true rfl) rfl (kI_ (F := fun st M' => VV X mX11_split rX11_split (pI_ post) 65 [(0, .inr (.inr (some this))), (1, .inl a1), (2, .inl a2), (3, .inl a3), (4, .inl a4), (5, .inl a5), (6, .inl a6)] st M' 0 0) (fun r20 M21 h => ?_))
            refine vv_aload_n (mi := mX11_split) (pc := 65) 0 dX11_split_65 rfl rfl ?_
            obtain ⟨ht22, h⟩ := h
            refine vv_getR (mi := mX11_split) (pc := 66) 11 6 rfl ht22 fl_X11_22 (Nat.le_of_ble_eq_true rfl) dX11_split_66 ?_
            refine vv_iload_n (mi := mX11_split) (pc := 69) 1 dX11_split_69 rfl rfl ?_
            obtain ⟨aq23, hs24, h⟩ := h
            obtain ⟨ht25, h⟩ := h
            obtain ⟨hi26, h⟩ := h
            refine vv_iald (mi := mX11_split) (pc := 70) hs24 ht25 hi26 dX11_split_70 ?_
            refine vv_iadd (mi := mX11_split) (pc := 71) dX11_split_71 ?_
            refine vv_aload_n (mi := mX11_split) (pc := 72) 0 dX11_split_72 rfl rfl ?_
            refine vv_getR (mi := mX11_split) (pc := 73) 11 4 rfl ht22 fl_X11_16 (Nat.le_of_ble_eq_true rfl) dX11_split_73 ?_
            refine vv_iload_n (mi := mX11_split) (pc := 76) 1 dX11_split_76 rfl rfl ?_
            obtain ⟨aq27, hs28, h⟩ := h
            obtain ⟨ht29, h⟩ := h
            obtain ⟨hi30, h⟩ := h
            refine vv_iald (mi := mX11_split) (pc := 77) hs28 ht29 hi30 dX11_split_77 ?_
            refine vv_callS (mi := mX11_split) (pc := 78) (rest := [.inl (r20 + (ddI M21 aq23 (Int32.toNatClampNeg a1)))]) (As := [.inl (ddI M21 aq27 (Int32.toNatClampNeg a1))]) (ctX11_lengthOf (X := X) h) dX11_split_78 mb_X11_lengthOf rfl ml_X11_139 sc_X11_lengthOf ⟨(Nat.le_of_ble_eq_true rfl), (Nat.le_of_ble_eq_true rfl)⟩ ⟨(Nat.le_of_ble_eq_true rfl), (Nat.le_of_ble_eq_true rfl)⟩ (Nat.le_of_ble_eq_true rfl) rfl (kI_ (F := fun st M' => VV X mX11_split rX11_split (pI_ post) 81 [(0, .inr (.inr (some this))), (1, .inl a1), (2, .inl a2), (3, .inl a3), (4, .inl a4), (5, .inl a5), (6, .inl a6)] st M' 0 0) (fun r31 M32 h => ?_))
            refine vv_isub (mi := mX11_split) (pc := 81) dX11_split_81 ?_
            obtain ⟨v33, ev33⟩ : ∃ z : Int32, z = ((r20 + (ddI M21 aq23 (Int32.toNatClampNeg a1))) - r31) := ⟨_, rfl⟩
            refine vv_namI ev33 ?_
            replace h := h _ ev33
            refine vv_istore (mi := mX11_split) (pc := 82) [(7, .inl v33), (0, .inr (.inr (some this))), (1, .inl a1), (2, .inl a2), (3, .inl a3), (4, .inl a4), (5, .inl a5), (6, .inl a6)] dX11_split_82 (Nat.le_of_ble_eq_true rfl) rfl ?_
            refine vv_iload (mi := mX11_split) (pc := 84) 0 dX11_split_84 rfl ?_
            refine vv_bipush (mi := mX11_split) (pc := 86) 12 dX11_split_86 rfl ?_
            refine vv_icmp_le (mi := mX11_split) (pc := 88) 94 dX11_split_88 rfl (fun c34 => ?_) (fun c34 => ?_)
            · replace h := h.1 c34
              refine vv_iload_n (mi := mX11_split) (pc := 94) 3 dX11_split_94 rfl rfl ?_
              refine vv_aload_n (mi := mX11_split) (pc := 95) 1 dX11_split_95 rfl rfl ?_
              obtain ⟨ht35, h⟩ := h
              refine vv_getR (mi := mX11_split) (pc := 96) 11 5 rfl ht35 fl_X11_19 (Nat.le_of_ble_eq_true rfl) dX11_split_96 ?_
              refine vv_iload_n (mi := mX11_split) (pc := 99) 2 dX11_split_99 rfl rfl ?_
              obtain ⟨aq36, hs37, h⟩ := h
              obtain ⟨ht38, h⟩ := h
              obtain ⟨hi39, h⟩ := h
              refine vv_iald (mi := mX11_split) (pc := 100) hs37 ht38 hi39 dX11_split_100 ?_
              refine vv_icmp_ne (mi := mX11_split) (pc := 101) 108 dX11_split_101 rfl (fun c40 => ?_) (fun c40 => ?_)
              · replace h := h.1 c40
                refine vv_iconst (mi := mX11_split) (pc := 108) 0 dX11_split_108 rfl ?_
                refine vv_sub (mi := mX11_split) [(0, .inr (.inr (some this))), (1, .inl a1), (2, .inl a2), (3, .inl a3), (4, .inl a4), (5, .inl a5), (6, .inl a6), (7, .inl v33)] [1, 2, 3, 4, 5, 6, 7, 0] rfl ?_
                exact bX11_split_109 (X := X)  h
              · replace h := h.2 c40
                refine vv_iconst (mi := mX11_split) (pc := 104) 1 dX11_split_104 rfl ?_
                refine vv_goto (mi := mX11_split) (pc := 105) 109 dX11_split_105 rfl ?_
                refine vv_sub (mi := mX11_split) [(0, .inr (.inr (some this))), (1, .inl a1), (2, .inl a2), (3, .inl a3), (4, .inl a4), (5, .inl a5), (6, .inl a6), (7, .inl v33)] [1, 2, 3, 4, 5, 6, 7, 0] rfl ?_
                exact bX11_split_109 (X := X)  h
            · replace h := h.2 c34
              refine vv_bipush (mi := mX11_split) (pc := 91) (-2) dX11_split_91 rfl ?_
              exact vv_iret (mi := mX11_split) (pc := 93) dX11_split_93 rfl (Nat.le_of_ble_eq_true rfl) (Nat.le_of_ble_eq_true rfl) h
          · replace h := h.2 c19
            refine vv_bipush (mi := mX11_split) (pc := 58) (-2) dX11_split_58 rfl ?_
            exact vv_iret (mi := mX11_split) (pc := 60) dX11_split_60 rfl (Nat.le_of_ble_eq_true rfl) (Nat.le_of_ble_eq_true rfl) h
set_option maxHeartbeats 4000000 in
set_option maxRecDepth 100000 in
theorem bX11_lengthen_67 {X : Cx_}  {post : Int32 → Mm → Prop}  {this : Nat} {x1 : Int32} {x2 : Int32} {x3 : Int32} {x4 : Int32} {s0 : Int32} {s1 : Int32} {M : Mm} (h : BX11_lengthen_67  post this x1 x2 x3 x4 s0 s1 M) : VV X mX11_lengthen rX11_lengthen (pI_ post) 67 [(0, .inr (.inr (some this))), (1, .inl x1), (2, .inl x2), (3, .inl x3), (4, .inl x4)] [.inl s1, .inl s0] M 0 0 := by
  unfold BX11_lengthen_67 at h
  refine vv_iadd (mi := mX11_lengthen) (pc := 67) dX11_lengthen_67 ?_
  refine vv_bipush (mi := mX11_lengthen) (pc := 68) 120 dX11_lengthen_68 rfl ?_
  refine vv_icmp_le (mi := mX11_lengthen) (pc := 70) 76 dX11_lengthen_70 rfl (fun c23 => ?_) (fun c23 => ?_)
  · replace h := h.1 c23
    refine vv_aload_n (mi := mX11_lengthen) (pc := 76) 0 dX11_lengthen_76 rfl rfl ?_
    obtain ⟨ht24, h⟩ := h
    refine vv_getR (mi := mX11_lengthen) (pc := 77) 11 9 rfl ht24 fl_X11_31 (Nat.le_of_ble_eq_true rfl) dX11_lengthen_77 ?_
    refine vv_iload_n (mi := mX11_lengthen) (pc := 80) 1 dX11_lengthen_80 rfl rfl ?_
    obtain ⟨aq25, hs26, h⟩ := h
    obtain ⟨ht27, h⟩ := h
    obtain ⟨hi28, h⟩ := h
    refine vv_iald (mi := mX11_lengthen) (pc := 81) hs26 ht27 hi28 dX11_lengthen_81 ?_
    obtain ⟨v29, ev29⟩ : ∃ z : Int32, z = (ddI M aq25 (Int32.toNatClampNeg x1)) := ⟨_, rfl⟩
    refine vv_namI ev29 ?_
    replace h := h _ ev29
    refine vv_istore (mi := mX11_lengthen) (pc := 82) [(5, .inl v29), (0, .inr (.inr (some this))), (1, .inl x1), (2, .inl x2), (3, .inl x3), (4, .inl x4)] dX11_lengthen_82 (Nat.le_of_ble_eq_true rfl) rfl ?_
    refine vv_aload_n (mi := mX11_lengthen) (pc := 84) 1 dX11_lengthen_84 rfl rfl ?_
    refine vv_getR (mi := mX11_lengthen) (pc := 85) 11 9 rfl ht24 fl_X11_31 (Nat.le_of_ble_eq_true rfl) dX11_lengthen_85 ?_
    refine vv_iload_n (mi := mX11_lengthen) (pc := 88) 2 dX11_lengthen_88 rfl rfl ?_
    refine vv_iload_n (mi := mX11_lengthen) (pc := 89) 4 dX11_lengthen_89 rfl rfl ?_
    obtain ⟨hi30, h⟩ := h
    obtain ⟨M31, eM31⟩ : ∃ z : Mm, z = suI M aq25 (Int32.toNatClampNeg x1) x3 := ⟨_, rfl⟩
    replace h := h _ eM31
    refine vv_iast (mi := mX11_lengthen) (pc := 90) hs26 ht27 hi30 dX11_lengthen_90 eM31 ?_
    refine vv_aload_n (mi := mX11_lengthen) (pc := 91) 1 dX11_lengthen_91 rfl rfl ?_
    refine vv_getR (mi := mX11_lengthen) (pc := 92) 11 11 rfl (tgI_ eM31 ht24) fl_X11_37 (Nat.le_of_ble_eq_true rfl) dX11_lengthen_92 ?_
    refine vv_iload_n (mi := mX11_lengthen) (pc := 95) 2 dX11_lengthen_95 rfl rfl ?_
    refine vv_iload_n (mi := mX11_lengthen) (pc := 96) 4 dX11_lengthen_96 rfl rfl ?_
    obtain ⟨aq32, hs33, h⟩ := h
    obtain ⟨ht34, h⟩ := h
    obtain ⟨hi35, h⟩ := h
    obtain ⟨M36, eM36⟩ : ∃ z : Mm, z = suI M31 aq32 (Int32.toNatClampNeg x1) x3 := ⟨_, rfl⟩
    replace h := h _ eM36
    refine vv_iast (mi := mX11_lengthen) (pc := 97) hs33 ht34 hi35 dX11_lengthen_97 eM36 ?_
    refine vv_aload_n (mi := mX11_lengthen) (pc := 98) 1 dX11_lengthen_98 rfl rfl ?_
    refine vv_getR (mi := mX11_lengthen) (pc := 99) 11 13 rfl (tgI_ eM36 (tgI_ eM31 ht24)) fl_X11_43 (Nat.le_of_ble_eq_true rfl) dX11_lengthen_99 ?_
    refine vv_iload_n (mi := mX11_lengthen) (pc := 102) 2 dX11_lengthen_102 rfl rfl ?_
    refine vv_aload_n (mi := mX11_lengthen) (pc := 103) 1 dX11_lengthen_103 rfl rfl ?_
    refine vv_getR (mi := mX11_lengthen) (pc := 104) 11 5 rfl (tgI_ eM36 (tgI_ eM31 ht24)) fl_X11_19 (Nat.le_of_ble_eq_true rfl) dX11_lengthen_104 ?_
    refine vv_iload_n (mi := mX11_lengthen) (pc := 107) 2 dX11_lengthen_107 rfl rfl ?_
    obtain ⟨aq37, hs38, h⟩ := h
    obtain ⟨ht39, h⟩ := h
    obtain ⟨hi40, h⟩ := h
    refine vv_iald (mi := mX11_lengthen) (pc := 108) hs38 ht39 hi40 dX11_lengthen_108 ?_
    obtain ⟨aq41, hs42, h⟩ := h
    obtain ⟨ht43, h⟩ := h
    obtain ⟨hi44, h⟩ := h
    obtain ⟨M45, eM45⟩ : ∃ z : Mm, z = suI M36 aq41 (Int32.toNatClampNeg x1) (ddI M36 aq37 (Int32.toNatClampNeg x1)) := ⟨_, rfl⟩
    replace h := h _ eM45
    refine vv_iast (mi := mX11_lengthen) (pc := 109) hs42 ht43 hi44 dX11_lengthen_109 eM45 ?_
    refine vv_aload_n (mi := mX11_lengthen) (pc := 110) 1 dX11_lengthen_110 rfl rfl ?_
    refine vv_iconst (mi := mX11_lengthen) (pc := 111) 0 dX11_lengthen_111 rfl ?_
    refine vv_aload_n (mi := mX11_lengthen) (pc := 112) 1 dX11_lengthen_112 rfl rfl ?_
    refine vv_getR (mi := mX11_lengthen) (pc := 113) 11 3 rfl (tgI_ eM45 (tgI_ eM36 (tgI_ eM31 ht24))) fl_X11_13 (Nat.le_of_ble_eq_true rfl) dX11_lengthen_113 ?_
    refine vv_iload_n (mi := mX11_lengthen) (pc := 116) 2 dX11_lengthen_116 rfl rfl ?_
    obtain ⟨aq46, hs47, h⟩ := h
    obtain ⟨ht48, h⟩ := h
    obtain ⟨hi49, h⟩ := h
    refine vv_iald (mi := mX11_lengthen) (pc := 117) hs47 ht48 hi49 dX11_lengthen_117 ?_
    refine vv_bipush (mi := mX11_lengthen) (pc := 118) 10 dX11_lengthen_118 rfl ?_
    refine vv_aload_n (mi := mX11_lengthen) (pc := 120) 1 dX11_lengthen_120 rfl rfl ?_
    refine vv_getR (mi := mX11_lengthen) (pc := 121) 11 4 rfl (tgI_ eM45 (tgI_ eM36 (tgI_ eM31 ht24))) fl_X11_16 (Nat.le_of_ble_eq_true rfl) dX11_lengthen_121 ?_
    refine vv_iload_n (mi := mX11_lengthen) (pc := 124) 2 dX11_lengthen_124 rfl rfl ?_
    obtain ⟨aq50, hs51, h⟩ := h
    obtain ⟨ht52, h⟩ := h
    obtain ⟨hi53, h⟩ := h
    refine vv_iald (mi := mX11_lengthen) (pc := 125) hs51 ht52 hi53 dX11_lengthen_125 ?_
    refine vv_imul (mi := mX11_lengthen) (pc := 126) dX11_lengthen_126 ?_
    refine vv_iload_n (mi := mX11_lengthen) (pc := 127) 3 dX11_lengthen_127 rfl rfl ?_
    refine vv_iadd (mi := mX11_lengthen) (pc := 128) dX11_lengthen_128 ?_
    refine vv_aload_n (mi := mX11_lengthen) (pc := 129) 1 dX11_lengthen_129 rfl rfl ?_
    refine vv_getR (mi := mX11_lengthen) (pc := 130) 11 5 rfl (tgI_ eM45 (tgI_ eM36 (tgI_ eM31 ht24))) fl_X11_19 (Nat.le_of_ble_eq_true rfl) dX11_lengthen_130 ?_
    refine vv_iload_n (mi := mX11_lengthen) (pc := 133) 2 dX11_lengthen_133 rfl rfl ?_
    obtain ⟨aq54, hs55, h⟩ := h
    obtain ⟨ht56, h⟩ := h
    obtain ⟨hi57, h⟩ := h
    refine vv_iald (mi := mX11_lengthen) (pc := 134) hs55 ht56 hi57 dX11_lengthen_134 ?_
    refine vv_aload_n (mi := mX11_lengthen) (pc := 135) 1 dX11_lengthen_135 rfl rfl ?_
    refine vv_getR (mi := mX11_lengthen) (pc := 136) 11 6 rfl (tgI_ eM45 (tgI_ eM36 (tgI_ eM31 ht24))) fl_X11_22 (Nat.le_of_ble_eq_true rfl) dX11_lengthen_136 ?_
    refine vv_iload_n (mi := mX11_lengthen) (pc := 139) 2 dX11_lengthen_139 rfl rfl ?_
    obtain ⟨aq58, hs59, h⟩ := h
    obtain ⟨ht60, h⟩ := h
    obtain ⟨hi61, h⟩ := h
    refine vv_iald (mi := mX11_lengthen) (pc := 140) hs59 ht60 hi61 dX11_lengthen_140 ?_
    refine vv_iconst (mi := mX11_lengthen) (pc := 141) 1 dX11_lengthen_141 rfl ?_
    refine vv_iadd (mi := mX11_lengthen) (pc := 142) dX11_lengthen_142 ?_
    refine vv_aload_n (mi := mX11_lengthen) (pc := 143) 1 dX11_lengthen_143 rfl rfl ?_
    refine vv_getR (mi := mX11_lengthen) (pc := 144) 11 6 rfl (tgI_ eM45 (tgI_ eM36 (tgI_ eM31 ht24))) fl_X11_22 (Nat.le_of_ble_eq_true rfl) dX11_lengthen_144 ?_
    refine vv_iload_n (mi := mX11_lengthen) (pc := 147) 2 dX11_lengthen_147 rfl rfl ?_
    obtain ⟨hi62, h⟩ := h
    refine vv_iald (mi := mX11_lengthen) (pc := 148) hs59 ht60 hi62 dX11_lengthen_148 ?_
    refine vv_iconst (mi := mX11_lengthen) (pc := 149) 1 dX11_lengthen_149 rfl ?_
    refine vv_iadd (mi := mX11_lengthen) (pc := 150) dX11_lengthen_150 ?_
    refine vv_iload_n (mi := mX11_lengthen) (pc := 151) 4 dX11_lengthen_151 rfl rfl ?_
    refine vv_iload (mi := mX11_lengthen) (pc := 152) 0 dX11_lengthen_152 rfl ?_
    refine vv_iload_n (mi := mX11_lengthen) (pc := 154) 2 dX11_lengthen_154 rfl rfl ?_
    refine vv_callV (mi := mX11_lengthen) (pc := 155) (rest := []) (As := [.inl 0, .inl (ddI M45 aq46 (Int32.toNatClampNeg x1)), .inl ((10 * (ddI M45 aq50 (Int32.toNatClampNeg x1))) + x2), .inl (ddI M45 aq54 (Int32.toNatClampNeg x1)), .inl ((ddI M45 aq58 (Int32.toNatClampNeg x1)) + 1), .inl ((ddI M45 aq58 (Int32.toNatClampNeg x1)) + 1), .inl x3, .inl v29, .inl x1]) (ctX11_add (X := X) h) dX11_lengthen_155 rfl (tgI_ eM45 (tgI_ eM36 (tgI_ eM31 ht24))) (Nat.le_of_ble_eq_true rfl) rfl mb_X11_add rfl ml_X11_157 im_X11_add se_X11_add ⟨(Nat.le_of_ble_eq_true rfl), (Nat.le_of_ble_eq_true rfl)⟩ ⟨(Nat.le_of_ble_eq_true rfl), (Nat.le_of_ble_eq_true rfl)⟩ (Nat.le_of_ble_eq_true rfl) rfl (kI_ (F := fun st M' => VV X mX11_lengthen rX11_lengthen (pI_ post) 158 [(5, .inl v29), (0, .inr (.inr (some this))), (1, .inl x1), (2, .inl x2), (3, .inl x3), (4, .inl x4)] st M' 0 0) (fun r63 M64 h => ?_))
    refine vv_istore (mi := mX11_lengthen) (pc := 158) [(6, .inl r63), (5, .inl v29), (0, .inr (.inr (some this))), (1, .inl x1), (2, .inl x2), (3, .inl x3), (4, .inl x4)] dX11_lengthen_158 (Nat.le_of_ble_eq_true rfl) rfl ?_
    refine vv_aload_n (mi := mX11_lengthen) (pc := 160) 2 dX11_lengthen_160 rfl rfl ?_
    obtain ⟨ht65, h⟩ := h
    refine vv_getR (mi := mX11_lengthen) (pc := 161) 11 14 rfl ht65 fl_X11_46 (Nat.le_of_ble_eq_true rfl) dX11_lengthen_161 ?_
    refine vv_iload_n (mi := mX11_lengthen) (pc := 164) 3 dX11_lengthen_164 rfl rfl ?_
    refine vv_iload (mi := mX11_lengthen) (pc := 165) 0 dX11_lengthen_165 rfl ?_
    obtain ⟨aq66, hs67, h⟩ := h
    obtain ⟨ht68, h⟩ := h
    obtain ⟨hi69, h⟩ := h
    obtain ⟨M70, eM70⟩ : ∃ z : Mm, z = suI M64 aq66 (Int32.toNatClampNeg x1) r63 := ⟨_, rfl⟩
    replace h := h _ eM70
    refine vv_iast (mi := mX11_lengthen) (pc := 167) hs67 ht68 hi69 dX11_lengthen_167 eM70 ?_
    refine vv_aload_n (mi := mX11_lengthen) (pc := 168) 2 dX11_lengthen_168 rfl rfl ?_
    refine vv_iload_n (mi := mX11_lengthen) (pc := 169) 3 dX11_lengthen_169 rfl rfl ?_
    refine vv_aload_n (mi := mX11_lengthen) (pc := 170) 2 dX11_lengthen_170 rfl rfl ?_
    refine vv_getR (mi := mX11_lengthen) (pc := 171) 11 5 rfl (tgI_ eM70 ht65) fl_X11_19 (Nat.le_of_ble_eq_true rfl) dX11_lengthen_171 ?_
    refine vv_iload_n (mi := mX11_lengthen) (pc := 174) 3 dX11_lengthen_174 rfl rfl ?_
    obtain ⟨aq71, hs72, h⟩ := h
    obtain ⟨ht73, h⟩ := h
    obtain ⟨hi74, h⟩ := h
    refine vv_iald (mi := mX11_lengthen) (pc := 175) hs72 ht73 hi74 dX11_lengthen_175 ?_
    refine vv_iload (mi := mX11_lengthen) (pc := 176) 0 dX11_lengthen_176 rfl ?_
    refine vv_iload_n (mi := mX11_lengthen) (pc := 178) 5 dX11_lengthen_178 rfl rfl ?_
    refine vv_iload (mi := mX11_lengthen) (pc := 179) 6 dX11_lengthen_179 rfl ?_
    refine vv_iload (mi := mX11_lengthen) (pc := 181) 1 dX11_lengthen_181 rfl ?_
    refine vv_callV (mi := mX11_lengthen) (pc := 183) (rest := []) (As := [.inl x1, .inl (ddI M70 aq71 (Int32.toNatClampNeg x1)), .inl r63, .inl x3, .inl x4, .inl v29]) (ctX11_park (X := X) h) dX11_lengthen_183 rfl (tgI_ eM70 ht65) (Nat.le_of_ble_eq_true rfl) rfl mb_X11_park rfl ml_X11_179 im_X11_park se_X11_park ⟨(Nat.le_of_ble_eq_true rfl), (Nat.le_of_ble_eq_true rfl)⟩ ⟨(Nat.le_of_ble_eq_true rfl), (Nat.le_of_ble_eq_true rfl)⟩ (Nat.le_of_ble_eq_true rfl) rfl (kV_ (F := fun st M' => VV X mX11_lengthen rX11_lengthen (pI_ post) 186 [(6, .inl r63), (5, .inl v29), (0, .inr (.inr (some this))), (1, .inl x1), (2, .inl x2), (3, .inl x3), (4, .inl x4)] st M' 0 0) (fun M76 h => ?_))
    refine vv_iload (mi := mX11_lengthen) (pc := 186) 0 dX11_lengthen_186 rfl ?_
    exact vv_iret (mi := mX11_lengthen) (pc := 188) dX11_lengthen_188 rfl (Nat.le_of_ble_eq_true rfl) (Nat.le_of_ble_eq_true rfl) h
  · replace h := h.2 c23
    refine vv_bipush (mi := mX11_lengthen) (pc := 73) (-3) dX11_lengthen_73 rfl ?_
    exact vv_iret (mi := mX11_lengthen) (pc := 75) dX11_lengthen_75 rfl (Nat.le_of_ble_eq_true rfl) (Nat.le_of_ble_eq_true rfl) h
set_option maxHeartbeats 4000000 in
set_option maxRecDepth 100000 in
theorem ctX11_lengthen {X : Cx_} {this : Nat} {a1 : Int32} {a2 : Int32} {a3 : Int32} {a4 : Int32} {M : Mm} {post : Int32 → Mm → Prop} (h : PX11_lengthen this a1 a2 a3 a4 M post) : CT X mX11_lengthen rX11_lengthen [.inr (.inr (some this)), .inl a1, .inl a2, .inl a3, .inl a4] M (pI_ post) := by
  unfold PX11_lengthen at h
  refine CT.of (by decide +kernel) (Nat.le_of_ble_eq_true rfl) ?_
  show VV X mX11_lengthen rX11_lengthen (pI_ post) 0 [(0, .inr (.inr (some this))), (1, .inl a1), (2, .inl a2), (3, .inl a3), (4, .inl a4)] [] M 0 0
  refine vv_aload_n (mi := mX11_lengthen) (pc := 0) 0 dX11_lengthen_0 rfl rfl ?_
  refine vv_iload_n (mi := mX11_lengthen) (pc := 1) 1 dX11_lengthen_1 rfl rfl ?_
  refine vv_iload_n (mi := mX11_lengthen) (pc := 2) 3 dX11_lengthen_2 rfl rfl ?_
  refine vv_iload (mi := mX11_lengthen) (pc := 3) 4 dX11_lengthen_3 rfl ?_
  obtain ⟨ht1, h⟩ := h
  refine vv_callV (mi := mX11_lengthen) (pc := 5) (rest := []) (As := [.inl a1, .inl a3, .inl a4]) (ctX11_mayChange (X := X) h) dX11_lengthen_5 rfl ht1 (Nat.le_of_ble_eq_true rfl) rfl mb_X11_mayChange rfl ml_X11_175 im_X11_mayChange se_X11_mayChange ⟨(Nat.le_of_ble_eq_true rfl), (Nat.le_of_ble_eq_true rfl)⟩ ⟨(Nat.le_of_ble_eq_true rfl), (Nat.le_of_ble_eq_true rfl)⟩ (Nat.le_of_ble_eq_true rfl) rfl (kI_ (F := fun st M' => VV X mX11_lengthen rX11_lengthen (pI_ post) 8 [(0, .inr (.inr (some this))), (1, .inl a1), (2, .inl a2), (3, .inl a3), (4, .inl a4)] st M' 0 0) (fun r2 M3 h => ?_))
  refine vv_if_eq (mi := mX11_lengthen) (pc := 8) 48 dX11_lengthen_8 rfl (fun c4 => ?_) (fun c4 => ?_)
  · replace h := h.1 c4
    refine vv_bipush (mi := mX11_lengthen) (pc := 48) (-2) dX11_lengthen_48 rfl ?_
    exact vv_iret (mi := mX11_lengthen) (pc := 50) dX11_lengthen_50 rfl (Nat.le_of_ble_eq_true rfl) (Nat.le_of_ble_eq_true rfl) h
  · replace h := h.2 c4
    refine vv_iload_n (mi := mX11_lengthen) (pc := 11) 2 dX11_lengthen_11 rfl rfl ?_
    refine vv_i2l (mi := mX11_lengthen) (pc := 12) dX11_lengthen_12 ?_
    refine vv_lconst (mi := mX11_lengthen) (pc := 13) 0 dX11_lengthen_13 rfl ?_
    refine vv_ldc2 (mi := mX11_lengthen) (pc := 14) 9 dX11_lengthen_14 kl_X11_118 ?_
    refine vv_callS (mi := mX11_lengthen) (pc := 17) (rest := []) (As := [.inr (.inl (Int32.toInt64 a2)), .inr (.inl 0), .inr (.inl 9)]) (ctX11_in (X := X) h) dX11_lengthen_17 mb_X11_in rfl ml_X11_110 sc_X11_in ⟨(Nat.le_of_ble_eq_true rfl), (Nat.le_of_ble_eq_true rfl)⟩ ⟨(Nat.le_of_ble_eq_true rfl), (Nat.le_of_ble_eq_true rfl)⟩ (Nat.le_of_ble_eq_true rfl) rfl (kI_ (F := fun st M' => VV X mX11_lengthen rX11_lengthen (pI_ post) 20 [(0, .inr (.inr (some this))), (1, .inl a1), (2, .inl a2), (3, .inl a3), (4, .inl a4)] st M' 0 0) (fun r5 M6 h => ?_))
    refine vv_if_eq (mi := mX11_lengthen) (pc := 20) 48 dX11_lengthen_20 rfl (fun c7 => ?_) (fun c7 => ?_)
    · replace h := h.1 c7
      refine vv_bipush (mi := mX11_lengthen) (pc := 48) (-2) dX11_lengthen_48 rfl ?_
      exact vv_iret (mi := mX11_lengthen) (pc := 50) dX11_lengthen_50 rfl (Nat.le_of_ble_eq_true rfl) (Nat.le_of_ble_eq_true rfl) h
    · replace h := h.2 c7
      refine vv_aload_n (mi := mX11_lengthen) (pc := 23) 0 dX11_lengthen_23 rfl rfl ?_
      obtain ⟨ht8, h⟩ := h
      refine vv_getR (mi := mX11_lengthen) (pc := 24) 11 4 rfl ht8 fl_X11_16 (Nat.le_of_ble_eq_true rfl) dX11_lengthen_24 ?_
      refine vv_iload_n (mi := mX11_lengthen) (pc := 27) 1 dX11_lengthen_27 rfl rfl ?_
      obtain ⟨aq9, hs10, h⟩ := h
      obtain ⟨ht11, h⟩ := h
      obtain ⟨hi12, h⟩ := h
      refine vv_iald (mi := mX11_lengthen) (pc := 28) hs10 ht11 hi12 dX11_lengthen_28 ?_
      refine vv_callS (mi := mX11_lengthen) (pc := 29) (rest := []) (As := [.inl (ddI M6 aq9 (Int32.toNatClampNeg a1))]) (ctX11_lengthOf (X := X) h) dX11_lengthen_29 mb_X11_lengthOf rfl ml_X11_139 sc_X11_lengthOf ⟨(Nat.le_of_ble_eq_true rfl), (Nat.le_of_ble_eq_true rfl)⟩ ⟨(Nat.le_of_ble_eq_true rfl), (Nat.le_of_ble_eq_true rfl)⟩ (Nat.le_of_ble_eq_true rfl) rfl (kI_ (F := fun st M' => VV X mX11_lengthen rX11_lengthen (pI_ post) 32 [(0, .inr (.inr (some this))), (1, .inl a1), (2, .inl a2), (3, .inl a3), (4, .inl a4)] st M' 0 0) (fun r13 M14 h => ?_))
      refine vv_bipush (mi := mX11_lengthen) (pc := 32) 7 dX11_lengthen_32 rfl ?_
      refine vv_icmp_eq (mi := mX11_lengthen) (pc := 34) 48 dX11_lengthen_34 rfl (fun c15 => ?_) (fun c15 => ?_)
      · replace h := h.1 c15
        refine vv_bipush (mi := mX11_lengthen) (pc := 48) (-2) dX11_lengthen_48 rfl ?_
        exact vv_iret (mi := mX11_lengthen) (pc := 50) dX11_lengthen_50 rfl (Nat.le_of_ble_eq_true rfl) (Nat.le_of_ble_eq_true rfl) h
      · replace h := h.2 c15
        refine vv_aload_n (mi := mX11_lengthen) (pc := 37) 0 dX11_lengthen_37 rfl rfl ?_
        obtain ⟨ht16, h⟩ := h
        refine vv_getR (mi := mX11_lengthen) (pc := 38) 11 6 rfl ht16 fl_X11_22 (Nat.le_of_ble_eq_true rfl) dX11_lengthen_38 ?_
        refine vv_iload_n (mi := mX11_lengthen) (pc := 41) 1 dX11_lengthen_41 rfl rfl ?_
        obtain ⟨aq17, hs18, h⟩ := h
        obtain ⟨ht19, h⟩ := h
        obtain ⟨hi20, h⟩ := h
        refine vv_iald (mi := mX11_lengthen) (pc := 42) hs18 ht19 hi20 dX11_lengthen_42 ?_
        refine vv_bipush (mi := mX11_lengthen) (pc := 43) 12 dX11_lengthen_43 rfl ?_
        refine vv_icmp_ne (mi := mX11_lengthen) (pc := 45) 51 dX11_lengthen_45 rfl (fun c21 => ?_) (fun c21 => ?_)
        · replace h := h.1 c21
          refine vv_aload_n (mi := mX11_lengthen) (pc := 51) 0 dX11_lengthen_51 rfl rfl ?_
          refine vv_getI (mi := mX11_lengthen) (pc := 52) 11 1 rfl ht16 fl_X11_130 (Nat.le_of_ble_eq_true rfl) dX11_lengthen_52 ?_
          refine vv_iconst (mi := mX11_lengthen) (pc := 55) 1 dX11_lengthen_55 rfl ?_
          refine vv_iadd (mi := mX11_lengthen) (pc := 56) dX11_lengthen_56 ?_
          refine vv_iload (mi := mX11_lengthen) (pc := 57) 4 dX11_lengthen_57 rfl ?_
          refine vv_if_le (mi := mX11_lengthen) (pc := 59) 66 dX11_lengthen_59 rfl (fun c22 => ?_) (fun c22 => ?_)
          · replace h := h.1 c22
            refine vv_iconst (mi := mX11_lengthen) (pc := 66) 0 dX11_lengthen_66 rfl ?_
            refine vv_sub (mi := mX11_lengthen) [(0, .inr (.inr (some this))), (1, .inl a1), (2, .inl a2), (3, .inl a3), (4, .inl a4)] [0, 1, 2, 3, 4] rfl ?_
            exact bX11_lengthen_67 (X := X)  h
          · replace h := h.2 c22
            refine vv_iconst (mi := mX11_lengthen) (pc := 62) 1 dX11_lengthen_62 rfl ?_
            refine vv_goto (mi := mX11_lengthen) (pc := 63) 67 dX11_lengthen_63 rfl ?_
            refine vv_sub (mi := mX11_lengthen) [(0, .inr (.inr (some this))), (1, .inl a1), (2, .inl a2), (3, .inl a3), (4, .inl a4)] [0, 1, 2, 3, 4] rfl ?_
            exact bX11_lengthen_67 (X := X)  h
        · replace h := h.2 c21
          refine vv_bipush (mi := mX11_lengthen) (pc := 48) (-2) dX11_lengthen_48 rfl ?_
          exact vv_iret (mi := mX11_lengthen) (pc := 50) dX11_lengthen_50 rfl (Nat.le_of_ble_eq_true rfl) (Nat.le_of_ble_eq_true rfl) h
set_option maxHeartbeats 4000000 in
set_option maxRecDepth 100000 in
theorem ctX11_entry {X : Cx_} {this : Nat} {a1 : Int32} {a2 : Int32} {M : Mm} {post : Int32 → Mm → Prop} (h : PX11_entry this a1 a2 M post) : CT X mX11_entry rX11_entry [.inr (.inr (some this)), .inl a1, .inl a2] M (pI_ post) := by
  unfold PX11_entry at h
  refine CT.of (by decide +kernel) (Nat.le_of_ble_eq_true rfl) ?_
  show VV X mX11_entry rX11_entry (pI_ post) 0 [(0, .inr (.inr (some this))), (1, .inl a1), (2, .inl a2)] [] M 0 0
  refine vv_aload_n (mi := mX11_entry) (pc := 0) 0 dX11_entry_0 rfl rfl ?_
  refine vv_iload_n (mi := mX11_entry) (pc := 1) 1 dX11_entry_1 rfl rfl ?_
  obtain ⟨ht1, h⟩ := h
  refine vv_callV (mi := mX11_entry) (pc := 2) (rest := []) (As := [.inl a1]) (ctX11_isEntry (X := X) h) dX11_entry_2 rfl ht1 (Nat.le_of_ble_eq_true rfl) rfl mb_X11_isEntry rfl ml_X11_166 im_X11_isEntry se_X11_isEntry ⟨(Nat.le_of_ble_eq_true rfl), (Nat.le_of_ble_eq_true rfl)⟩ ⟨(Nat.le_of_ble_eq_true rfl), (Nat.le_of_ble_eq_true rfl)⟩ (Nat.le_of_ble_eq_true rfl) rfl (kI_ (F := fun st M' => VV X mX11_entry rX11_entry (pI_ post) 5 [(0, .inr (.inr (some this))), (1, .inl a1), (2, .inl a2)] st M' 0 0) (fun r2 M3 h => ?_))
  refine vv_if_ne (mi := mX11_entry) (pc := 5) 10 dX11_entry_5 rfl (fun c4 => ?_) (fun c4 => ?_)
  · replace h := h.1 c4
    refine vv_iload_n (mi := mX11_entry) (pc := 10) 2 dX11_entry_10 rfl rfl ?_
    refine vv_tsw (mi := mX11_entry) (pc := 11) 123 [60, 67, 74, 81, 88, 95, 102, 109, 116] dX11_entry_11 rfl rfl rfl (fun j t c5 c5e => ?_) (fun c5 => ?_)
    · match j, c5, c5e with
      | 0, c5, c5e =>
        cases c5
        replace h := h.1 c5e
        refine vv_aload_n (mi := mX11_entry) (pc := 60) 0 dX11_entry_60 rfl rfl ?_
        obtain ⟨ht6, h⟩ := h
        refine vv_getR (mi := mX11_entry) (pc := 61) 11 2 rfl ht6 fl_X11_7 (Nat.le_of_ble_eq_true rfl) dX11_entry_61 ?_
        refine vv_iload_n (mi := mX11_entry) (pc := 64) 1 dX11_entry_64 rfl rfl ?_
        obtain ⟨aq7, hs8, h⟩ := h
        obtain ⟨ht9, h⟩ := h
        obtain ⟨hi10, h⟩ := h
        refine vv_iald (mi := mX11_entry) (pc := 65) hs8 ht9 hi10 dX11_entry_65 ?_
        exact vv_iret (mi := mX11_entry) (pc := 66) dX11_entry_66 rfl (Nat.le_of_ble_eq_true rfl) (Nat.le_of_ble_eq_true rfl) h
      | 1, c5, c5e =>
        cases c5
        replace h := h.2.1 c5e
        refine vv_aload_n (mi := mX11_entry) (pc := 67) 0 dX11_entry_67 rfl rfl ?_
        obtain ⟨ht11, h⟩ := h
        refine vv_getR (mi := mX11_entry) (pc := 68) 11 3 rfl ht11 fl_X11_13 (Nat.le_of_ble_eq_true rfl) dX11_entry_68 ?_
        refine vv_iload_n (mi := mX11_entry) (pc := 71) 1 dX11_entry_71 rfl rfl ?_
        obtain ⟨aq12, hs13, h⟩ := h
        obtain ⟨ht14, h⟩ := h
        obtain ⟨hi15, h⟩ := h
        refine vv_iald (mi := mX11_entry) (pc := 72) hs13 ht14 hi15 dX11_entry_72 ?_
        exact vv_iret (mi := mX11_entry) (pc := 73) dX11_entry_73 rfl (Nat.le_of_ble_eq_true rfl) (Nat.le_of_ble_eq_true rfl) h
      | 2, c5, c5e =>
        cases c5
        replace h := h.2.2.1 c5e
        refine vv_aload_n (mi := mX11_entry) (pc := 74) 0 dX11_entry_74 rfl rfl ?_
        obtain ⟨ht16, h⟩ := h
        refine vv_getR (mi := mX11_entry) (pc := 75) 11 4 rfl ht16 fl_X11_16 (Nat.le_of_ble_eq_true rfl) dX11_entry_75 ?_
        refine vv_iload_n (mi := mX11_entry) (pc := 78) 1 dX11_entry_78 rfl rfl ?_
        obtain ⟨aq17, hs18, h⟩ := h
        obtain ⟨ht19, h⟩ := h
        obtain ⟨hi20, h⟩ := h
        refine vv_iald (mi := mX11_entry) (pc := 79) hs18 ht19 hi20 dX11_entry_79 ?_
        exact vv_iret (mi := mX11_entry) (pc := 80) dX11_entry_80 rfl (Nat.le_of_ble_eq_true rfl) (Nat.le_of_ble_eq_true rfl) h
      | 3, c5, c5e =>
        cases c5
        replace h := h.2.2.2.1 c5e
        refine vv_aload_n (mi := mX11_entry) (pc := 81) 0 dX11_entry_81 rfl rfl ?_
        obtain ⟨ht21, h⟩ := h
        refine vv_getR (mi := mX11_entry) (pc := 82) 11 5 rfl ht21 fl_X11_19 (Nat.le_of_ble_eq_true rfl) dX11_entry_82 ?_
        refine vv_iload_n (mi := mX11_entry) (pc := 85) 1 dX11_entry_85 rfl rfl ?_
        obtain ⟨aq22, hs23, h⟩ := h
        obtain ⟨ht24, h⟩ := h
        obtain ⟨hi25, h⟩ := h
        refine vv_iald (mi := mX11_entry) (pc := 86) hs23 ht24 hi25 dX11_entry_86 ?_
        exact vv_iret (mi := mX11_entry) (pc := 87) dX11_entry_87 rfl (Nat.le_of_ble_eq_true rfl) (Nat.le_of_ble_eq_true rfl) h
      | 4, c5, c5e =>
        cases c5
        replace h := h.2.2.2.2.1 c5e
        refine vv_aload_n (mi := mX11_entry) (pc := 88) 0 dX11_entry_88 rfl rfl ?_
        obtain ⟨ht26, h⟩ := h
        refine vv_getR (mi := mX11_entry) (pc := 89) 11 6 rfl ht26 fl_X11_22 (Nat.le_of_ble_eq_true rfl) dX11_entry_89 ?_
        refine vv_iload_n (mi := mX11_entry) (pc := 92) 1 dX11_entry_92 rfl rfl ?_
        obtain ⟨aq27, hs28, h⟩ := h
        obtain ⟨ht29, h⟩ := h
        obtain ⟨hi30, h⟩ := h
        refine vv_iald (mi := mX11_entry) (pc := 93) hs28 ht29 hi30 dX11_entry_93 ?_
        exact vv_iret (mi := mX11_entry) (pc := 94) dX11_entry_94 rfl (Nat.le_of_ble_eq_true rfl) (Nat.le_of_ble_eq_true rfl) h
      | 5, c5, c5e =>
        cases c5
        replace h := h.2.2.2.2.2.1 c5e
        refine vv_aload_n (mi := mX11_entry) (pc := 95) 0 dX11_entry_95 rfl rfl ?_
        obtain ⟨ht31, h⟩ := h
        refine vv_getR (mi := mX11_entry) (pc := 96) 11 7 rfl ht31 fl_X11_25 (Nat.le_of_ble_eq_true rfl) dX11_entry_96 ?_
        refine vv_iload_n (mi := mX11_entry) (pc := 99) 1 dX11_entry_99 rfl rfl ?_
        obtain ⟨aq32, hs33, h⟩ := h
        obtain ⟨ht34, h⟩ := h
        obtain ⟨hi35, h⟩ := h
        refine vv_iald (mi := mX11_entry) (pc := 100) hs33 ht34 hi35 dX11_entry_100 ?_
        exact vv_iret (mi := mX11_entry) (pc := 101) dX11_entry_101 rfl (Nat.le_of_ble_eq_true rfl) (Nat.le_of_ble_eq_true rfl) h
      | 6, c5, c5e =>
        cases c5
        replace h := h.2.2.2.2.2.2.1 c5e
        refine vv_aload_n (mi := mX11_entry) (pc := 102) 0 dX11_entry_102 rfl rfl ?_
        obtain ⟨ht36, h⟩ := h
        refine vv_getR (mi := mX11_entry) (pc := 103) 11 8 rfl ht36 fl_X11_28 (Nat.le_of_ble_eq_true rfl) dX11_entry_103 ?_
        refine vv_iload_n (mi := mX11_entry) (pc := 106) 1 dX11_entry_106 rfl rfl ?_
        obtain ⟨aq37, hs38, h⟩ := h
        obtain ⟨ht39, h⟩ := h
        obtain ⟨hi40, h⟩ := h
        refine vv_iald (mi := mX11_entry) (pc := 107) hs38 ht39 hi40 dX11_entry_107 ?_
        exact vv_iret (mi := mX11_entry) (pc := 108) dX11_entry_108 rfl (Nat.le_of_ble_eq_true rfl) (Nat.le_of_ble_eq_true rfl) h
      | 7, c5, c5e =>
        cases c5
        replace h := h.2.2.2.2.2.2.2.1 c5e
        refine vv_aload_n (mi := mX11_entry) (pc := 109) 0 dX11_entry_109 rfl rfl ?_
        obtain ⟨ht41, h⟩ := h
        refine vv_getR (mi := mX11_entry) (pc := 110) 11 9 rfl ht41 fl_X11_31 (Nat.le_of_ble_eq_true rfl) dX11_entry_110 ?_
        refine vv_iload_n (mi := mX11_entry) (pc := 113) 1 dX11_entry_113 rfl rfl ?_
        obtain ⟨aq42, hs43, h⟩ := h
        obtain ⟨ht44, h⟩ := h
        obtain ⟨hi45, h⟩ := h
        refine vv_iald (mi := mX11_entry) (pc := 114) hs43 ht44 hi45 dX11_entry_114 ?_
        exact vv_iret (mi := mX11_entry) (pc := 115) dX11_entry_115 rfl (Nat.le_of_ble_eq_true rfl) (Nat.le_of_ble_eq_true rfl) h
      | 8, c5, c5e =>
        cases c5
        replace h := h.2.2.2.2.2.2.2.2.1 c5e
        refine vv_aload_n (mi := mX11_entry) (pc := 116) 0 dX11_entry_116 rfl rfl ?_
        obtain ⟨ht46, h⟩ := h
        refine vv_getR (mi := mX11_entry) (pc := 117) 11 10 rfl ht46 fl_X11_34 (Nat.le_of_ble_eq_true rfl) dX11_entry_117 ?_
        refine vv_iload_n (mi := mX11_entry) (pc := 120) 1 dX11_entry_120 rfl rfl ?_
        obtain ⟨aq47, hs48, h⟩ := h
        obtain ⟨ht49, h⟩ := h
        obtain ⟨hi50, h⟩ := h
        refine vv_iald (mi := mX11_entry) (pc := 121) hs48 ht49 hi50 dX11_entry_121 ?_
        exact vv_iret (mi := mX11_entry) (pc := 122) dX11_entry_122 rfl (Nat.le_of_ble_eq_true rfl) (Nat.le_of_ble_eq_true rfl) h
      | (j + 9), c5, _ => exact absurd c5 (by simp)
    · replace h := h.2.2.2.2.2.2.2.2.2 c5
      refine vv_iconst (mi := mX11_entry) (pc := 123) (-1) dX11_entry_123 rfl ?_
      exact vv_iret (mi := mX11_entry) (pc := 124) dX11_entry_124 rfl (Nat.le_of_ble_eq_true rfl) (Nat.le_of_ble_eq_true rfl) h
  · replace h := h.2 c4
    refine vv_iconst (mi := mX11_entry) (pc := 8) (-1) dX11_entry_8 rfl ?_
    exact vv_iret (mi := mX11_entry) (pc := 9) dX11_entry_9 rfl (Nat.le_of_ble_eq_true rfl) (Nat.le_of_ble_eq_true rfl) h
set_option maxHeartbeats 4000000 in
set_option maxRecDepth 100000 in
theorem ctX11_may {X : Cx_} {this : Nat} {a1 : Int32} {a2 : Int32} {M : Mm} {post : Int32 → Mm → Prop} (h : PX11_may this a1 a2 M post) : CT X mX11_may rX11_may [.inr (.inr (some this)), .inl a1, .inl a2] M (pI_ post) := by
  unfold PX11_may at h
  refine CT.of (by decide +kernel) (Nat.le_of_ble_eq_true rfl) ?_
  show VV X mX11_may rX11_may (pI_ post) 0 [(0, .inr (.inr (some this))), (1, .inl a1), (2, .inl a2)] [] M 0 0
  refine vv_aload_n (mi := mX11_may) (pc := 0) 0 dX11_may_0 rfl rfl ?_
  obtain ⟨ht1, h⟩ := h
  refine vv_getR (mi := mX11_may) (pc := 1) 11 4 rfl ht1 fl_X11_16 (Nat.le_of_ble_eq_true rfl) dX11_may_1 ?_
  refine vv_iload_n (mi := mX11_may) (pc := 4) 1 dX11_may_4 rfl rfl ?_
  obtain ⟨aq2, hs3, h⟩ := h
  obtain ⟨ht4, h⟩ := h
  obtain ⟨hi5, h⟩ := h
  refine vv_iald (mi := mX11_may) (pc := 5) hs3 ht4 hi5 dX11_may_5 ?_
  refine vv_callS (mi := mX11_may) (pc := 6) (rest := []) (As := [.inl (ddI M aq2 (Int32.toNatClampNeg a1))]) (ctX11_lengthOf (X := X) h) dX11_may_6 mb_X11_lengthOf rfl ml_X11_139 sc_X11_lengthOf ⟨(Nat.le_of_ble_eq_true rfl), (Nat.le_of_ble_eq_true rfl)⟩ ⟨(Nat.le_of_ble_eq_true rfl), (Nat.le_of_ble_eq_true rfl)⟩ (Nat.le_of_ble_eq_true rfl) rfl (kI_ (F := fun st M' => VV X mX11_may rX11_may (pI_ post) 9 [(0, .inr (.inr (some this))), (1, .inl a1), (2, .inl a2)] st M' 0 0) (fun r6 M7 h => ?_))
  refine vv_istore_n (mi := mX11_may) (pc := 9) [(3, .inl r6), (0, .inr (.inr (some this))), (1, .inl a1), (2, .inl a2)] dX11_may_9 rfl (Nat.le_of_ble_eq_true rfl) rfl ?_
  refine vv_iload_n (mi := mX11_may) (pc := 10) 3 dX11_may_10 rfl rfl ?_
  refine vv_iload_n (mi := mX11_may) (pc := 11) 0 dX11_may_11 rfl rfl ?_
  refine vv_icmp_ge (mi := mX11_may) (pc := 12) 29 dX11_may_12 rfl (fun c8 => ?_) (fun c8 => ?_)
  · replace h := h.1 c8
    refine vv_iload_n (mi := mX11_may) (pc := 29) 3 dX11_may_29 rfl rfl ?_
    refine vv_iload_n (mi := mX11_may) (pc := 30) 0 dX11_may_30 rfl rfl ?_
    refine vv_icmp_ne (mi := mX11_may) (pc := 31) 52 dX11_may_31 rfl (fun c9 => ?_) (fun c9 => ?_)
    · replace h := h.1 c9
      refine vv_sipush (mi := mX11_may) (pc := 52) 1023 dX11_may_52 rfl ?_
      exact vv_iret (mi := mX11_may) (pc := 55) dX11_may_55 rfl (Nat.le_of_ble_eq_true rfl) (Nat.le_of_ble_eq_true rfl) h
    · replace h := h.2 c9
      refine vv_aload_n (mi := mX11_may) (pc := 34) 1 dX11_may_34 rfl rfl ?_
      obtain ⟨ht10, h⟩ := h
      refine vv_getR (mi := mX11_may) (pc := 35) 11 5 rfl ht10 fl_X11_19 (Nat.le_of_ble_eq_true rfl) dX11_may_35 ?_
      refine vv_iload_n (mi := mX11_may) (pc := 38) 2 dX11_may_38 rfl rfl ?_
      obtain ⟨aq11, hs12, h⟩ := h
      obtain ⟨ht13, h⟩ := h
      obtain ⟨hi14, h⟩ := h
      refine vv_iald (mi := mX11_may) (pc := 39) hs12 ht13 hi14 dX11_may_39 ?_
      refine vv_if_eq (mi := mX11_may) (pc := 40) 52 dX11_may_40 rfl (fun c15 => ?_) (fun c15 => ?_)
      · replace h := h.1 c15
        refine vv_sipush (mi := mX11_may) (pc := 52) 1023 dX11_may_52 rfl ?_
        exact vv_iret (mi := mX11_may) (pc := 55) dX11_may_55 rfl (Nat.le_of_ble_eq_true rfl) (Nat.le_of_ble_eq_true rfl) h
      · replace h := h.2 c15
        refine vv_aload_n (mi := mX11_may) (pc := 43) 1 dX11_may_43 rfl rfl ?_
        refine vv_getR (mi := mX11_may) (pc := 44) 11 5 rfl ht10 fl_X11_19 (Nat.le_of_ble_eq_true rfl) dX11_may_44 ?_
        refine vv_iload_n (mi := mX11_may) (pc := 47) 2 dX11_may_47 rfl rfl ?_
        obtain ⟨hi16, h⟩ := h
        refine vv_iald (mi := mX11_may) (pc := 48) hs12 ht13 hi16 dX11_may_48 ?_
        refine vv_goto (mi := mX11_may) (pc := 49) 55 dX11_may_49 rfl ?_
        exact vv_iret (mi := mX11_may) (pc := 55) dX11_may_55 rfl (Nat.le_of_ble_eq_true rfl) (Nat.le_of_ble_eq_true rfl) h
  · replace h := h.2 c8
    refine vv_iconst (mi := mX11_may) (pc := 15) 1 dX11_may_15 rfl ?_
    refine vv_aload_n (mi := mX11_may) (pc := 16) 1 dX11_may_16 rfl rfl ?_
    obtain ⟨ht17, h⟩ := h
    refine vv_getR (mi := mX11_may) (pc := 17) 11 4 rfl ht17 fl_X11_16 (Nat.le_of_ble_eq_true rfl) dX11_may_17 ?_
    refine vv_iload_n (mi := mX11_may) (pc := 20) 2 dX11_may_20 rfl rfl ?_
    obtain ⟨aq18, hs19, h⟩ := h
    obtain ⟨ht20, h⟩ := h
    obtain ⟨hi21, h⟩ := h
    refine vv_iald (mi := mX11_may) (pc := 21) hs19 ht20 hi21 dX11_may_21 ?_
    refine vv_i2l (mi := mX11_may) (pc := 22) dX11_may_22 ?_
    refine vv_iload_n (mi := mX11_may) (pc := 23) 3 dX11_may_23 rfl rfl ?_
    refine vv_callS (mi := mX11_may) (pc := 24) (rest := [.inl 1]) (As := [.inr (.inl (Int32.toInt64 (ddI M7 aq18 (Int32.toNatClampNeg a1)))), .inl a2]) (ctX11_figureAt (X := X) h) dX11_may_24 mb_X11_figureAt rfl ml_X11_183 sc_X11_figureAt ⟨(Nat.le_of_ble_eq_true rfl), (Nat.le_of_ble_eq_true rfl)⟩ ⟨(Nat.le_of_ble_eq_true rfl), (Nat.le_of_ble_eq_true rfl)⟩ (Nat.le_of_ble_eq_true rfl) rfl (kI_ (F := fun st M' => VV X mX11_may rX11_may (pI_ post) 27 [(3, .inl r6), (0, .inr (.inr (some this))), (1, .inl a1), (2, .inl a2)] st M' 0 0) (fun r22 M23 h => ?_))
    refine vv_ishl (mi := mX11_may) (pc := 27) dX11_may_27 ?_
    exact vv_iret (mi := mX11_may) (pc := 28) dX11_may_28 rfl (Nat.le_of_ble_eq_true rfl) (Nat.le_of_ble_eq_true rfl) h
set_option maxHeartbeats 4000000 in
set_option maxRecDepth 100000 in
theorem bX11_begins_19 {X : Cx_} {kb19 : Nat → Int32 → Int32 → Int32 → Mm → Prop} {post : Int32 → Mm → Prop} (hb19 : ∀ (this : Nat) (x1 : Int32) (x2 : Int32) (x3 : Int32) (M : Mm), kb19 this x1 x2 x3 M → VV X mX11_begins rX11_begins (pI_ post) 19 [(0, .inr (.inr (some this))), (1, .inl x1), (2, .inl x2), (3, .inl x3)] [] M 0 0) {this : Nat} {x1 : Int32} {x2 : Int32} {x3 : Int32} {M : Mm} (h : BX11_begins_19 kb19 post this x1 x2 x3 M) : VV X mX11_begins rX11_begins (pI_ post) 19 [(0, .inr (.inr (some this))), (1, .inl x1), (2, .inl x2), (3, .inl x3)] [] M 0 0 := by
  unfold BX11_begins_19 at h
  refine vv_iload_n (mi := mX11_begins) (pc := 19) 3 dX11_begins_19 rfl rfl ?_
  refine vv_aload_n (mi := mX11_begins) (pc := 20) 0 dX11_begins_20 rfl rfl ?_
  obtain ⟨ht11, h⟩ := h
  refine vv_getR (mi := mX11_begins) (pc := 21) 11 6 rfl ht11 fl_X11_22 (Nat.le_of_ble_eq_true rfl) dX11_begins_21 ?_
  refine vv_iload_n (mi := mX11_begins) (pc := 24) 1 dX11_begins_24 rfl rfl ?_
  obtain ⟨aq12, hs13, h⟩ := h
  obtain ⟨ht14, h⟩ := h
  obtain ⟨hi15, h⟩ := h
  refine vv_iald (mi := mX11_begins) (pc := 25) hs13 ht14 hi15 dX11_begins_25 ?_
  refine vv_icmp_ge (mi := mX11_begins) (pc := 26) 53 dX11_begins_26 rfl (fun c16 => ?_) (fun c16 => ?_)
  · replace h := h.1 c16
    refine vv_iconst (mi := mX11_begins) (pc := 53) 1 dX11_begins_53 rfl ?_
    exact vv_zret (mi := mX11_begins) (pc := 54) dX11_begins_54 rfl (Or.inr rfl) (Nat.le_of_ble_eq_true rfl) (Nat.le_of_ble_eq_true rfl) h
  · replace h := h.2 c16
    refine vv_aload_n (mi := mX11_begins) (pc := 29) 0 dX11_begins_29 rfl rfl ?_
    refine vv_iload_n (mi := mX11_begins) (pc := 30) 1 dX11_begins_30 rfl rfl ?_
    refine vv_iload_n (mi := mX11_begins) (pc := 31) 3 dX11_begins_31 rfl rfl ?_
    refine vv_callV (mi := mX11_begins) (pc := 32) (rest := []) (As := [.inl x1, .inl x3]) (ctX11_may (X := X) h) dX11_begins_32 rfl ht11 (Nat.le_of_ble_eq_true rfl) rfl mb_X11_may rfl ml_X11_187 im_X11_may se_X11_may ⟨(Nat.le_of_ble_eq_true rfl), (Nat.le_of_ble_eq_true rfl)⟩ ⟨(Nat.le_of_ble_eq_true rfl), (Nat.le_of_ble_eq_true rfl)⟩ (Nat.le_of_ble_eq_true rfl) rfl (kI_ (F := fun st M' => VV X mX11_begins rX11_begins (pI_ post) 35 [(0, .inr (.inr (some this))), (1, .inl x1), (2, .inl x2), (3, .inl x3)] st M' 0 0) (fun r17 M18 h => ?_))
    refine vv_aload_n (mi := mX11_begins) (pc := 35) 0 dX11_begins_35 rfl rfl ?_
    refine vv_iload_n (mi := mX11_begins) (pc := 36) 2 dX11_begins_36 rfl rfl ?_
    refine vv_iload_n (mi := mX11_begins) (pc := 37) 3 dX11_begins_37 rfl rfl ?_
    obtain ⟨ht19, h⟩ := h
    refine vv_callV (mi := mX11_begins) (pc := 38) (rest := [.inl r17]) (As := [.inl x2, .inl x3]) (ctX11_may (X := X) h) dX11_begins_38 rfl ht19 (Nat.le_of_ble_eq_true rfl) rfl mb_X11_may rfl ml_X11_187 im_X11_may se_X11_may ⟨(Nat.le_of_ble_eq_true rfl), (Nat.le_of_ble_eq_true rfl)⟩ ⟨(Nat.le_of_ble_eq_true rfl), (Nat.le_of_ble_eq_true rfl)⟩ (Nat.le_of_ble_eq_true rfl) rfl (kI_ (F := fun st M' => VV X mX11_begins rX11_begins (pI_ post) 41 [(0, .inr (.inr (some this))), (1, .inl x1), (2, .inl x2), (3, .inl x3)] st M' 0 0) (fun r20 M21 h => ?_))
    refine vv_iand (mi := mX11_begins) (pc := 41) dX11_begins_41 ?_
    refine vv_if_ne (mi := mX11_begins) (pc := 42) 47 dX11_begins_42 rfl (fun c22 => ?_) (fun c22 => ?_)
    · replace h := h.1 c22
      refine vv_iinc (mi := mX11_begins) (pc := 47) (x3 + 1) 3 [(3, .inl (x3 + 1)), (0, .inr (.inr (some this))), (1, .inl x1), (2, .inl x2)] dX11_begins_47 rfl rfl (Nat.le_of_ble_eq_true rfl) rfl ?_
      refine vv_goto (mi := mX11_begins) (pc := 50) 19 dX11_begins_50 rfl ?_
      refine vv_sub (mi := mX11_begins) [(0, .inr (.inr (some this))), (1, .inl x1), (2, .inl x2), (3, .inl (x3 + 1))] [1, 2, 3, 0] rfl ?_
      exact hb19 _ _ _ _ _ h
    · replace h := h.2 c22
      refine vv_iconst (mi := mX11_begins) (pc := 45) 0 dX11_begins_45 rfl ?_
      exact vv_zret (mi := mX11_begins) (pc := 46) dX11_begins_46 rfl (Or.inl rfl) (Nat.le_of_ble_eq_true rfl) (Nat.le_of_ble_eq_true rfl) h
theorem loX11_begins_19 {X : Cx_}  {post : Int32 → Mm → Prop}  : ∀ (fu : Nat) {this : Nat} {x1 : Int32} {x2 : Int32} {x3 : Int32} {M : Mm}, DX11_begins_19  post fu this x1 x2 x3 M → VV X mX11_begins rX11_begins (pI_ post) 19 [(0, .inr (.inr (some this))), (1, .inl x1), (2, .inl x2), (3, .inl x3)] [] M 0 0
  | 0, _, _, _, _, _, h => False.elim h
  | fu + 1, _, _, _, _, _, h => bX11_begins_19 (fun this x1 x2 x3 M h => loX11_begins_19  fu h) h
set_option maxHeartbeats 4000000 in
set_option maxRecDepth 100000 in
theorem ctX11_begins {X : Cx_} {this : Nat} {a1 : Int32} {a2 : Int32} {M : Mm} {post : Int32 → Mm → Prop} (h : PX11_begins this a1 a2 M post) : CT X mX11_begins rX11_begins [.inr (.inr (some this)), .inl a1, .inl a2] M (pI_ post) := by
  unfold PX11_begins at h
  refine CT.of (by decide +kernel) (Nat.le_of_ble_eq_true rfl) ?_
  show VV X mX11_begins rX11_begins (pI_ post) 0 [(0, .inr (.inr (some this))), (1, .inl a1), (2, .inl a2)] [] M 0 0
  refine vv_aload_n (mi := mX11_begins) (pc := 0) 0 dX11_begins_0 rfl rfl ?_
  obtain ⟨ht1, h⟩ := h
  refine vv_getR (mi := mX11_begins) (pc := 1) 11 6 rfl ht1 fl_X11_22 (Nat.le_of_ble_eq_true rfl) dX11_begins_1 ?_
  refine vv_iload_n (mi := mX11_begins) (pc := 4) 1 dX11_begins_4 rfl rfl ?_
  obtain ⟨aq2, hs3, h⟩ := h
  obtain ⟨ht4, h⟩ := h
  obtain ⟨hi5, h⟩ := h
  refine vv_iald (mi := mX11_begins) (pc := 5) hs3 ht4 hi5 dX11_begins_5 ?_
  refine vv_aload_n (mi := mX11_begins) (pc := 6) 0 dX11_begins_6 rfl rfl ?_
  refine vv_getR (mi := mX11_begins) (pc := 7) 11 7 rfl ht1 fl_X11_25 (Nat.le_of_ble_eq_true rfl) dX11_begins_7 ?_
  refine vv_iload_n (mi := mX11_begins) (pc := 10) 2 dX11_begins_10 rfl rfl ?_
  obtain ⟨aq6, hs7, h⟩ := h
  obtain ⟨ht8, h⟩ := h
  obtain ⟨hi9, h⟩ := h
  refine vv_iald (mi := mX11_begins) (pc := 11) hs7 ht8 hi9 dX11_begins_11 ?_
  refine vv_icmp_le (mi := mX11_begins) (pc := 12) 17 dX11_begins_12 rfl (fun c10 => ?_) (fun c10 => ?_)
  · replace h := h.1 c10
    refine vv_iconst (mi := mX11_begins) (pc := 17) 0 dX11_begins_17 rfl ?_
    refine vv_istore_n (mi := mX11_begins) (pc := 18) [(3, .inl 0), (0, .inr (.inr (some this))), (1, .inl a1), (2, .inl a2)] dX11_begins_18 rfl (Nat.le_of_ble_eq_true rfl) rfl ?_
    refine vv_sub (mi := mX11_begins) [(0, .inr (.inr (some this))), (1, .inl a1), (2, .inl a2), (3, .inl 0)] [1, 2, 3, 0] rfl ?_
    obtain ⟨fu, h⟩ := h
    exact loX11_begins_19 (X := X)  fu h
  · replace h := h.2 c10
    refine vv_iconst (mi := mX11_begins) (pc := 15) 0 dX11_begins_15 rfl ?_
    exact vv_zret (mi := mX11_begins) (pc := 16) dX11_begins_16 rfl (Or.inl rfl) (Nat.le_of_ble_eq_true rfl) (Nat.le_of_ble_eq_true rfl) h
set_option maxHeartbeats 4000000 in
set_option maxRecDepth 100000 in
theorem ctX11_isPair {X : Cx_} {this : Nat} {a1 : Int32} {a2 : Int32} {M : Mm} {post : Int32 → Mm → Prop} (h : PX11_isPair this a1 a2 M post) : CT X mX11_isPair rX11_isPair [.inr (.inr (some this)), .inl a1, .inl a2] M (pI_ post) := by
  unfold PX11_isPair at h
  refine CT.of (by decide +kernel) (Nat.le_of_ble_eq_true rfl) ?_
  show VV X mX11_isPair rX11_isPair (pI_ post) 0 [(0, .inr (.inr (some this))), (1, .inl a1), (2, .inl a2)] [] M 0 0
  refine vv_aload_n (mi := mX11_isPair) (pc := 0) 0 dX11_isPair_0 rfl rfl ?_
  refine vv_iload_n (mi := mX11_isPair) (pc := 1) 1 dX11_isPair_1 rfl rfl ?_
  refine vv_iload_n (mi := mX11_isPair) (pc := 2) 2 dX11_isPair_2 rfl rfl ?_
  obtain ⟨ht1, h⟩ := h
  refine vv_callV (mi := mX11_isPair) (pc := 3) (rest := []) (As := [.inl a1, .inl a2]) (ctX11_begins (X := X) h) dX11_isPair_3 rfl ht1 (Nat.le_of_ble_eq_true rfl) rfl mb_X11_begins rfl ml_X11_191 im_X11_begins se_X11_begins ⟨(Nat.le_of_ble_eq_true rfl), (Nat.le_of_ble_eq_true rfl)⟩ ⟨(Nat.le_of_ble_eq_true rfl), (Nat.le_of_ble_eq_true rfl)⟩ (Nat.le_of_ble_eq_true rfl) rfl (kI_ (F := fun st M' => VV X mX11_isPair rX11_isPair (pI_ post) 6 [(0, .inr (.inr (some this))), (1, .inl a1), (2, .inl a2)] st M' 0 0) (fun r2 M3 h => ?_))
  refine vv_if_ne (mi := mX11_isPair) (pc := 6) 18 dX11_isPair_6 rfl (fun c4 => ?_) (fun c4 => ?_)
  · replace h := h.1 c4
    refine vv_iconst (mi := mX11_isPair) (pc := 18) 1 dX11_isPair_18 rfl ?_
    refine vv_goto (mi := mX11_isPair) (pc := 19) 23 dX11_isPair_19 rfl ?_
    exact vv_zret (mi := mX11_isPair) (pc := 23) dX11_isPair_23 rfl (Or.inr rfl) (Nat.le_of_ble_eq_true rfl) (Nat.le_of_ble_eq_true rfl) h
  · replace h := h.2 c4
    refine vv_aload_n (mi := mX11_isPair) (pc := 9) 0 dX11_isPair_9 rfl rfl ?_
    refine vv_iload_n (mi := mX11_isPair) (pc := 10) 2 dX11_isPair_10 rfl rfl ?_
    refine vv_iload_n (mi := mX11_isPair) (pc := 11) 1 dX11_isPair_11 rfl rfl ?_
    obtain ⟨ht5, h⟩ := h
    refine vv_callV (mi := mX11_isPair) (pc := 12) (rest := []) (As := [.inl a2, .inl a1]) (ctX11_begins (X := X) h) dX11_isPair_12 rfl ht5 (Nat.le_of_ble_eq_true rfl) rfl mb_X11_begins rfl ml_X11_191 im_X11_begins se_X11_begins ⟨(Nat.le_of_ble_eq_true rfl), (Nat.le_of_ble_eq_true rfl)⟩ ⟨(Nat.le_of_ble_eq_true rfl), (Nat.le_of_ble_eq_true rfl)⟩ (Nat.le_of_ble_eq_true rfl) rfl (kI_ (F := fun st M' => VV X mX11_isPair rX11_isPair (pI_ post) 15 [(0, .inr (.inr (some this))), (1, .inl a1), (2, .inl a2)] st M' 0 0) (fun r6 M7 h => ?_))
    refine vv_if_eq (mi := mX11_isPair) (pc := 15) 22 dX11_isPair_15 rfl (fun c8 => ?_) (fun c8 => ?_)
    · replace h := h.1 c8
      refine vv_iconst (mi := mX11_isPair) (pc := 22) 0 dX11_isPair_22 rfl ?_
      exact vv_zret (mi := mX11_isPair) (pc := 23) dX11_isPair_23 rfl (Or.inl rfl) (Nat.le_of_ble_eq_true rfl) (Nat.le_of_ble_eq_true rfl) h
    · replace h := h.2 c8
      refine vv_iconst (mi := mX11_isPair) (pc := 18) 1 dX11_isPair_18 rfl ?_
      refine vv_goto (mi := mX11_isPair) (pc := 19) 23 dX11_isPair_19 rfl ?_
      exact vv_zret (mi := mX11_isPair) (pc := 23) dX11_isPair_23 rfl (Or.inr rfl) (Nat.le_of_ble_eq_true rfl) (Nat.le_of_ble_eq_true rfl) h
set_option maxHeartbeats 4000000 in
set_option maxRecDepth 100000 in
theorem bX11_pairs_27 {X : Cx_} {kb14 : Nat → Int32 → Int32 → Int32 → Mm → Prop} {kb27 : Nat → Int32 → Int32 → Int32 → Int32 → Mm → Prop} {post : Int32 → Mm → Prop} (hb14 : ∀ (this : Nat) (x1 : Int32) (x2 : Int32) (x3 : Int32) (M : Mm), kb14 this x1 x2 x3 M → VV X mX11_pairs rX11_pairs (pI_ post) 14 [(0, .inr (.inr (some this))), (1, .inl x1), (2, .inl x2), (3, .inl x3)] [] M 0 0) (hb27 : ∀ (this : Nat) (x1 : Int32) (x2 : Int32) (x3 : Int32) (x4 : Int32) (M : Mm), kb27 this x1 x2 x3 x4 M → VV X mX11_pairs rX11_pairs (pI_ post) 27 [(0, .inr (.inr (some this))), (1, .inl x1), (2, .inl x2), (3, .inl x3), (4, .inl x4)] [] M 0 0) {this : Nat} {x1 : Int32} {x2 : Int32} {x3 : Int32} {x4 : Int32} {M : Mm} (h : BX11_pairs_27 kb14 kb27 post this x1 x2 x3 x4 M) : VV X mX11_pairs rX11_pairs (pI_ post) 27 [(0, .inr (.inr (some this))), (1, .inl x1), (2, .inl x2), (3, .inl x3), (4, .inl x4)] [] M 0 0 := by
  unfold BX11_pairs_27 at h
  refine vv_iload (mi := mX11_pairs) (pc := 27) 4 dX11_pairs_27 rfl ?_
  refine vv_aload_n (mi := mX11_pairs) (pc := 29) 0 dX11_pairs_29 rfl rfl ?_
  obtain ⟨ht7, h⟩ := h
  refine vv_getI (mi := mX11_pairs) (pc := 30) 11 1 rfl ht7 fl_X11_130 (Nat.le_of_ble_eq_true rfl) dX11_pairs_30 ?_
  refine vv_icmp_ge (mi := mX11_pairs) (pc := 33) 79 dX11_pairs_33 rfl (fun c8 => ?_) (fun c8 => ?_)
  · replace h := h.1 c8
    refine vv_iinc (mi := mX11_pairs) (pc := 79) (x3 + 1) 3 [(3, .inl (x3 + 1)), (0, .inr (.inr (some this))), (1, .inl x1), (2, .inl x2), (4, .inl x4)] dX11_pairs_79 rfl rfl (Nat.le_of_ble_eq_true rfl) rfl ?_
    refine vv_goto (mi := mX11_pairs) (pc := 82) 14 dX11_pairs_82 rfl ?_
    refine vv_sub (mi := mX11_pairs) [(0, .inr (.inr (some this))), (1, .inl x1), (2, .inl x2), (3, .inl (x3 + 1))] [1, 2, 3, 0] rfl ?_
    exact hb14 _ _ _ _ _ h
  · replace h := h.2 c8
    refine vv_iload_n (mi := mX11_pairs) (pc := 36) 2 dX11_pairs_36 rfl rfl ?_
    refine vv_aload_n (mi := mX11_pairs) (pc := 37) 0 dX11_pairs_37 rfl rfl ?_
    refine vv_iload_n (mi := mX11_pairs) (pc := 38) 3 dX11_pairs_38 rfl rfl ?_
    refine vv_iload_n (mi := mX11_pairs) (pc := 39) 1 dX11_pairs_39 rfl rfl ?_
    refine vv_callV (mi := mX11_pairs) (pc := 40) (rest := [.inl x2]) (As := [.inl x3, .inl x1]) (ctX11_isForce (X := X) h) dX11_pairs_40 rfl ht7 (Nat.le_of_ble_eq_true rfl) rfl mb_X11_isForce rfl ml_X11_197 im_X11_isForce se_X11_isForce ⟨(Nat.le_of_ble_eq_true rfl), (Nat.le_of_ble_eq_true rfl)⟩ ⟨(Nat.le_of_ble_eq_true rfl), (Nat.le_of_ble_eq_true rfl)⟩ (Nat.le_of_ble_eq_true rfl) rfl (kI_ (F := fun st M' => VV X mX11_pairs rX11_pairs (pI_ post) 43 [(0, .inr (.inr (some this))), (1, .inl x1), (2, .inl x2), (3, .inl x3), (4, .inl x4)] st M' 0 0) (fun r9 M10 h => ?_))
    refine vv_if_eq (mi := mX11_pairs) (pc := 43) 70 dX11_pairs_43 rfl (fun c11 => ?_) (fun c11 => ?_)
    · replace h := h.1 c11
      refine vv_iconst (mi := mX11_pairs) (pc := 70) 0 dX11_pairs_70 rfl ?_
      refine vv_iadd (mi := mX11_pairs) (pc := 71) dX11_pairs_71 ?_
      obtain ⟨v12, ev12⟩ : ∃ z : Int32, z = (x2 + 0) := ⟨_, rfl⟩
      refine vv_namI ev12 ?_
      replace h := h _ ev12
      refine vv_istore_n (mi := mX11_pairs) (pc := 72) [(2, .inl v12), (0, .inr (.inr (some this))), (1, .inl x1), (3, .inl x3), (4, .inl x4)] dX11_pairs_72 rfl (Nat.le_of_ble_eq_true rfl) rfl ?_
      refine vv_iinc (mi := mX11_pairs) (pc := 73) (x4 + 1) 4 [(4, .inl (x4 + 1)), (2, .inl v12), (0, .inr (.inr (some this))), (1, .inl x1), (3, .inl x3)] dX11_pairs_73 rfl rfl (Nat.le_of_ble_eq_true rfl) rfl ?_
      refine vv_goto (mi := mX11_pairs) (pc := 76) 27 dX11_pairs_76 rfl ?_
      refine vv_sub (mi := mX11_pairs) [(0, .inr (.inr (some this))), (1, .inl x1), (2, .inl v12), (3, .inl x3), (4, .inl (x4 + 1))] [2, 3, 1, 4, 0] rfl ?_
      exact hb27 _ _ _ _ _ _ h
    · replace h := h.2 c11
      refine vv_aload_n (mi := mX11_pairs) (pc := 46) 0 dX11_pairs_46 rfl rfl ?_
      refine vv_iload (mi := mX11_pairs) (pc := 47) 4 dX11_pairs_47 rfl ?_
      refine vv_iload_n (mi := mX11_pairs) (pc := 49) 1 dX11_pairs_49 rfl rfl ?_
      obtain ⟨ht13, h⟩ := h
      refine vv_callV (mi := mX11_pairs) (pc := 50) (rest := [.inl x2]) (As := [.inl x4, .inl x1]) (ctX11_isForce (X := X) h) dX11_pairs_50 rfl ht13 (Nat.le_of_ble_eq_true rfl) rfl mb_X11_isForce rfl ml_X11_197 im_X11_isForce se_X11_isForce ⟨(Nat.le_of_ble_eq_true rfl), (Nat.le_of_ble_eq_true rfl)⟩ ⟨(Nat.le_of_ble_eq_true rfl), (Nat.le_of_ble_eq_true rfl)⟩ (Nat.le_of_ble_eq_true rfl) rfl (kI_ (F := fun st M' => VV X mX11_pairs rX11_pairs (pI_ post) 53 [(0, .inr (.inr (some this))), (1, .inl x1), (2, .inl x2), (3, .inl x3), (4, .inl x4)] st M' 0 0) (fun r14 M15 h => ?_))
      refine vv_if_eq (mi := mX11_pairs) (pc := 53) 70 dX11_pairs_53 rfl (fun c16 => ?_) (fun c16 => ?_)
      · replace h := h.1 c16
        refine vv_iconst (mi := mX11_pairs) (pc := 70) 0 dX11_pairs_70 rfl ?_
        refine vv_iadd (mi := mX11_pairs) (pc := 71) dX11_pairs_71 ?_
        obtain ⟨v17, ev17⟩ : ∃ z : Int32, z = (x2 + 0) := ⟨_, rfl⟩
        refine vv_namI ev17 ?_
        replace h := h _ ev17
        refine vv_istore_n (mi := mX11_pairs) (pc := 72) [(2, .inl v17), (0, .inr (.inr (some this))), (1, .inl x1), (3, .inl x3), (4, .inl x4)] dX11_pairs_72 rfl (Nat.le_of_ble_eq_true rfl) rfl ?_
        refine vv_iinc (mi := mX11_pairs) (pc := 73) (x4 + 1) 4 [(4, .inl (x4 + 1)), (2, .inl v17), (0, .inr (.inr (some this))), (1, .inl x1), (3, .inl x3)] dX11_pairs_73 rfl rfl (Nat.le_of_ble_eq_true rfl) rfl ?_
        refine vv_goto (mi := mX11_pairs) (pc := 76) 27 dX11_pairs_76 rfl ?_
        refine vv_sub (mi := mX11_pairs) [(0, .inr (.inr (some this))), (1, .inl x1), (2, .inl v17), (3, .inl x3), (4, .inl (x4 + 1))] [2, 3, 1, 4, 0] rfl ?_
        exact hb27 _ _ _ _ _ _ h
      · replace h := h.2 c16
        refine vv_aload_n (mi := mX11_pairs) (pc := 56) 0 dX11_pairs_56 rfl rfl ?_
        refine vv_iload_n (mi := mX11_pairs) (pc := 57) 3 dX11_pairs_57 rfl rfl ?_
        refine vv_iload (mi := mX11_pairs) (pc := 58) 4 dX11_pairs_58 rfl ?_
        obtain ⟨ht18, h⟩ := h
        refine vv_callV (mi := mX11_pairs) (pc := 60) (rest := [.inl x2]) (As := [.inl x3, .inl x4]) (ctX11_isPair (X := X) h) dX11_pairs_60 rfl ht18 (Nat.le_of_ble_eq_true rfl) rfl mb_X11_isPair rfl ml_X11_200 im_X11_isPair se_X11_isPair ⟨(Nat.le_of_ble_eq_true rfl), (Nat.le_of_ble_eq_true rfl)⟩ ⟨(Nat.le_of_ble_eq_true rfl), (Nat.le_of_ble_eq_true rfl)⟩ (Nat.le_of_ble_eq_true rfl) rfl (kI_ (F := fun st M' => VV X mX11_pairs rX11_pairs (pI_ post) 63 [(0, .inr (.inr (some this))), (1, .inl x1), (2, .inl x2), (3, .inl x3), (4, .inl x4)] st M' 0 0) (fun r19 M20 h => ?_))
        refine vv_if_eq (mi := mX11_pairs) (pc := 63) 70 dX11_pairs_63 rfl (fun c21 => ?_) (fun c21 => ?_)
        · replace h := h.1 c21
          refine vv_iconst (mi := mX11_pairs) (pc := 70) 0 dX11_pairs_70 rfl ?_
          refine vv_iadd (mi := mX11_pairs) (pc := 71) dX11_pairs_71 ?_
          obtain ⟨v22, ev22⟩ : ∃ z : Int32, z = (x2 + 0) := ⟨_, rfl⟩
          refine vv_namI ev22 ?_
          replace h := h _ ev22
          refine vv_istore_n (mi := mX11_pairs) (pc := 72) [(2, .inl v22), (0, .inr (.inr (some this))), (1, .inl x1), (3, .inl x3), (4, .inl x4)] dX11_pairs_72 rfl (Nat.le_of_ble_eq_true rfl) rfl ?_
          refine vv_iinc (mi := mX11_pairs) (pc := 73) (x4 + 1) 4 [(4, .inl (x4 + 1)), (2, .inl v22), (0, .inr (.inr (some this))), (1, .inl x1), (3, .inl x3)] dX11_pairs_73 rfl rfl (Nat.le_of_ble_eq_true rfl) rfl ?_
          refine vv_goto (mi := mX11_pairs) (pc := 76) 27 dX11_pairs_76 rfl ?_
          refine vv_sub (mi := mX11_pairs) [(0, .inr (.inr (some this))), (1, .inl x1), (2, .inl v22), (3, .inl x3), (4, .inl (x4 + 1))] [2, 3, 1, 4, 0] rfl ?_
          exact hb27 _ _ _ _ _ _ h
        · replace h := h.2 c21
          refine vv_iconst (mi := mX11_pairs) (pc := 66) 1 dX11_pairs_66 rfl ?_
          refine vv_goto (mi := mX11_pairs) (pc := 67) 71 dX11_pairs_67 rfl ?_
          refine vv_iadd (mi := mX11_pairs) (pc := 71) dX11_pairs_71 ?_
          obtain ⟨v23, ev23⟩ : ∃ z : Int32, z = (x2 + 1) := ⟨_, rfl⟩
          refine vv_namI ev23 ?_
          replace h := h _ ev23
          refine vv_istore_n (mi := mX11_pairs) (pc := 72) [(2, .inl v23), (0, .inr (.inr (some this))), (1, .inl x1), (3, .inl x3), (4, .inl x4)] dX11_pairs_72 rfl (Nat.le_of_ble_eq_true rfl) rfl ?_
          refine vv_iinc (mi := mX11_pairs) (pc := 73) (x4 + 1) 4 [(4, .inl (x4 + 1)), (2, .inl v23), (0, .inr (.inr (some this))), (1, .inl x1), (3, .inl x3)] dX11_pairs_73 rfl rfl (Nat.le_of_ble_eq_true rfl) rfl ?_
          refine vv_goto (mi := mX11_pairs) (pc := 76) 27 dX11_pairs_76 rfl ?_
          refine vv_sub (mi := mX11_pairs) [(0, .inr (.inr (some this))), (1, .inl x1), (2, .inl v23), (3, .inl x3), (4, .inl (x4 + 1))] [2, 3, 1, 4, 0] rfl ?_
          exact hb27 _ _ _ _ _ _ h
theorem loX11_pairs_27 {X : Cx_} {kb14 : Nat → Int32 → Int32 → Int32 → Mm → Prop} {post : Int32 → Mm → Prop} (hb14 : ∀ (this : Nat) (x1 : Int32) (x2 : Int32) (x3 : Int32) (M : Mm), kb14 this x1 x2 x3 M → VV X mX11_pairs rX11_pairs (pI_ post) 14 [(0, .inr (.inr (some this))), (1, .inl x1), (2, .inl x2), (3, .inl x3)] [] M 0 0) : ∀ (fu : Nat) {this : Nat} {x1 : Int32} {x2 : Int32} {x3 : Int32} {x4 : Int32} {M : Mm}, DX11_pairs_27 kb14 post fu this x1 x2 x3 x4 M → VV X mX11_pairs rX11_pairs (pI_ post) 27 [(0, .inr (.inr (some this))), (1, .inl x1), (2, .inl x2), (3, .inl x3), (4, .inl x4)] [] M 0 0
  | 0, _, _, _, _, _, _, h => False.elim h
  | fu + 1, _, _, _, _, _, _, h => bX11_pairs_27 hb14 (fun this x1 x2 x3 x4 M h => loX11_pairs_27 hb14 fu h) h
set_option maxHeartbeats 4000000 in
set_option maxRecDepth 100000 in
theorem bX11_pairs_14 {X : Cx_} {kb14 : Nat → Int32 → Int32 → Int32 → Mm → Prop} {post : Int32 → Mm → Prop} (hb14 : ∀ (this : Nat) (x1 : Int32) (x2 : Int32) (x3 : Int32) (M : Mm), kb14 this x1 x2 x3 M → VV X mX11_pairs rX11_pairs (pI_ post) 14 [(0, .inr (.inr (some this))), (1, .inl x1), (2, .inl x2), (3, .inl x3)] [] M 0 0) {this : Nat} {x1 : Int32} {x2 : Int32} {x3 : Int32} {M : Mm} (h : BX11_pairs_14 kb14 post this x1 x2 x3 M) : VV X mX11_pairs rX11_pairs (pI_ post) 14 [(0, .inr (.inr (some this))), (1, .inl x1), (2, .inl x2), (3, .inl x3)] [] M 0 0 := by
  unfold BX11_pairs_14 at h
  refine vv_iload_n (mi := mX11_pairs) (pc := 14) 3 dX11_pairs_14 rfl rfl ?_
  refine vv_aload_n (mi := mX11_pairs) (pc := 15) 0 dX11_pairs_15 rfl rfl ?_
  obtain ⟨ht4, h⟩ := h
  refine vv_getI (mi := mX11_pairs) (pc := 16) 11 1 rfl ht4 fl_X11_130 (Nat.le_of_ble_eq_true rfl) dX11_pairs_16 ?_
  refine vv_icmp_ge (mi := mX11_pairs) (pc := 19) 85 dX11_pairs_19 rfl (fun c5 => ?_) (fun c5 => ?_)
  · replace h := h.1 c5
    refine vv_iload_n (mi := mX11_pairs) (pc := 85) 2 dX11_pairs_85 rfl rfl ?_
    exact vv_iret (mi := mX11_pairs) (pc := 86) dX11_pairs_86 rfl (Nat.le_of_ble_eq_true rfl) (Nat.le_of_ble_eq_true rfl) h
  · replace h := h.2 c5
    refine vv_iload_n (mi := mX11_pairs) (pc := 22) 3 dX11_pairs_22 rfl rfl ?_
    refine vv_iconst (mi := mX11_pairs) (pc := 23) 1 dX11_pairs_23 rfl ?_
    refine vv_iadd (mi := mX11_pairs) (pc := 24) dX11_pairs_24 ?_
    obtain ⟨v6, ev6⟩ : ∃ z : Int32, z = (x3 + 1) := ⟨_, rfl⟩
    refine vv_namI ev6 ?_
    replace h := h _ ev6
    refine vv_istore (mi := mX11_pairs) (pc := 25) [(4, .inl v6), (0, .inr (.inr (some this))), (1, .inl x1), (2, .inl x2), (3, .inl x3)] dX11_pairs_25 (Nat.le_of_ble_eq_true rfl) rfl ?_
    refine vv_sub (mi := mX11_pairs) [(0, .inr (.inr (some this))), (1, .inl x1), (2, .inl x2), (3, .inl x3), (4, .inl v6)] [1, 2, 3, 4, 0] rfl ?_
    obtain ⟨fu, h⟩ := h
    exact loX11_pairs_27 (X := X) hb14 fu h
theorem loX11_pairs_14 {X : Cx_}  {post : Int32 → Mm → Prop}  : ∀ (fu : Nat) {this : Nat} {x1 : Int32} {x2 : Int32} {x3 : Int32} {M : Mm}, DX11_pairs_14  post fu this x1 x2 x3 M → VV X mX11_pairs rX11_pairs (pI_ post) 14 [(0, .inr (.inr (some this))), (1, .inl x1), (2, .inl x2), (3, .inl x3)] [] M 0 0
  | 0, _, _, _, _, _, h => False.elim h
  | fu + 1, _, _, _, _, _, h => bX11_pairs_14 (fun this x1 x2 x3 M h => loX11_pairs_14  fu h) h
set_option maxHeartbeats 4000000 in
set_option maxRecDepth 100000 in
theorem ctX11_pairs {X : Cx_} {this : Nat} {a1 : Int32} {M : Mm} {post : Int32 → Mm → Prop} (h : PX11_pairs this a1 M post) : CT X mX11_pairs rX11_pairs [.inr (.inr (some this)), .inl a1] M (pI_ post) := by
  unfold PX11_pairs at h
  refine CT.of (by decide +kernel) (Nat.le_of_ble_eq_true rfl) ?_
  show VV X mX11_pairs rX11_pairs (pI_ post) 0 [(0, .inr (.inr (some this))), (1, .inl a1)] [] M 0 0
  refine vv_iload_n (mi := mX11_pairs) (pc := 0) 1 dX11_pairs_0 rfl rfl ?_
  refine vv_callS (mi := mX11_pairs) (pc := 1) (rest := []) (As := [.inl a1]) (ctX11_isDay (X := X) h) dX11_pairs_1 mb_X11_isDay rfl ml_X11_194 sc_X11_isDay ⟨(Nat.le_of_ble_eq_true rfl), (Nat.le_of_ble_eq_true rfl)⟩ ⟨(Nat.le_of_ble_eq_true rfl), (Nat.le_of_ble_eq_true rfl)⟩ (Nat.le_of_ble_eq_true rfl) rfl (kI_ (F := fun st M' => VV X mX11_pairs rX11_pairs (pI_ post) 4 [(0, .inr (.inr (some this))), (1, .inl a1)] st M' 0 0) (fun r1 M2 h => ?_))
  refine vv_if_ne (mi := mX11_pairs) (pc := 4) 10 dX11_pairs_4 rfl (fun c3 => ?_) (fun c3 => ?_)
  · replace h := h.1 c3
    refine vv_iconst (mi := mX11_pairs) (pc := 10) 0 dX11_pairs_10 rfl ?_
    refine vv_istore_n (mi := mX11_pairs) (pc := 11) [(2, .inl 0), (0, .inr (.inr (some this))), (1, .inl a1)] dX11_pairs_11 rfl (Nat.le_of_ble_eq_true rfl) rfl ?_
    refine vv_iconst (mi := mX11_pairs) (pc := 12) 0 dX11_pairs_12 rfl ?_
    refine vv_istore_n (mi := mX11_pairs) (pc := 13) [(3, .inl 0), (2, .inl 0), (0, .inr (.inr (some this))), (1, .inl a1)] dX11_pairs_13 rfl (Nat.le_of_ble_eq_true rfl) rfl ?_
    refine vv_sub (mi := mX11_pairs) [(0, .inr (.inr (some this))), (1, .inl a1), (2, .inl 0), (3, .inl 0)] [2, 3, 1, 0] rfl ?_
    obtain ⟨fu, h⟩ := h
    exact loX11_pairs_14 (X := X)  fu h
  · replace h := h.2 c3
    refine vv_bipush (mi := mX11_pairs) (pc := 7) (-2) dX11_pairs_7 rfl ?_
    exact vv_iret (mi := mX11_pairs) (pc := 9) dX11_pairs_9 rfl (Nat.le_of_ble_eq_true rfl) (Nat.le_of_ble_eq_true rfl) h
set_option maxHeartbeats 4000000 in
set_option maxRecDepth 100000 in
theorem bX11_pair_57 {X : Cx_} {kb29 : Nat → Int32 → Int32 → Int32 → Int32 → Mm → Prop} {kb57 : Nat → Int32 → Int32 → Int32 → Int32 → Int32 → Mm → Prop} {post : Int32 → Mm → Prop} (hb29 : ∀ (this : Nat) (x1 : Int32) (x3 : Int32) (x4 : Int32) (x5 : Int32) (M : Mm), kb29 this x1 x3 x4 x5 M → VV X mX11_pair rX11_pair (pI_ post) 29 [(0, .inr (.inr (some this))), (1, .inl x1), (3, .inl x3), (4, .inl x4), (5, .inl x5)] [] M 0 0) (hb57 : ∀ (this : Nat) (x1 : Int32) (x3 : Int32) (x4 : Int32) (x5 : Int32) (x6 : Int32) (M : Mm), kb57 this x1 x3 x4 x5 x6 M → VV X mX11_pair rX11_pair (pI_ post) 57 [(0, .inr (.inr (some this))), (1, .inl x1), (3, .inl x3), (4, .inl x4), (5, .inl x5), (6, .inl x6)] [] M 0 0) {this : Nat} {x1 : Int32} {x3 : Int32} {x4 : Int32} {x5 : Int32} {x6 : Int32} {M : Mm} (h : BX11_pair_57 kb29 kb57 post this x1 x3 x4 x5 x6 M) : VV X mX11_pair rX11_pair (pI_ post) 57 [(0, .inr (.inr (some this))), (1, .inl x1), (3, .inl x3), (4, .inl x4), (5, .inl x5), (6, .inl x6)] [] M 0 0 := by
  unfold BX11_pair_57 at h
  refine vv_iload (mi := mX11_pair) (pc := 57) 5 dX11_pair_57 rfl ?_
  refine vv_aload_n (mi := mX11_pair) (pc := 59) 0 dX11_pair_59 rfl rfl ?_
  obtain ⟨ht14, h⟩ := h
  refine vv_getI (mi := mX11_pair) (pc := 60) 11 1 rfl ht14 fl_X11_130 (Nat.le_of_ble_eq_true rfl) dX11_pair_60 ?_
  refine vv_icmp_ge (mi := mX11_pair) (pc := 63) 116 dX11_pair_63 rfl (fun c15 => ?_) (fun c15 => ?_)
  · replace h := h.1 c15
    refine vv_iinc (mi := mX11_pair) (pc := 116) (x5 + 1) 4 [(5, .inl (x5 + 1)), (0, .inr (.inr (some this))), (1, .inl x1), (3, .inl x3), (4, .inl x4), (6, .inl x6)] dX11_pair_116 rfl rfl (Nat.le_of_ble_eq_true rfl) rfl ?_
    refine vv_goto (mi := mX11_pair) (pc := 119) 29 dX11_pair_119 rfl ?_
    refine vv_sub (mi := mX11_pair) [(0, .inr (.inr (some this))), (1, .inl x1), (3, .inl x3), (4, .inl x4), (5, .inl (x5 + 1))] [1, 2, 3, 4, 0] rfl ?_
    exact hb29 _ _ _ _ _ _ h
  · replace h := h.2 c15
    refine vv_aload_n (mi := mX11_pair) (pc := 66) 0 dX11_pair_66 rfl rfl ?_
    refine vv_iload (mi := mX11_pair) (pc := 67) 5 dX11_pair_67 rfl ?_
    refine vv_iload_n (mi := mX11_pair) (pc := 69) 1 dX11_pair_69 rfl rfl ?_
    refine vv_callV (mi := mX11_pair) (pc := 70) (rest := []) (As := [.inl x6, .inl x1]) (ctX11_isForce (X := X) h) dX11_pair_70 rfl ht14 (Nat.le_of_ble_eq_true rfl) rfl mb_X11_isForce rfl ml_X11_197 im_X11_isForce se_X11_isForce ⟨(Nat.le_of_ble_eq_true rfl), (Nat.le_of_ble_eq_true rfl)⟩ ⟨(Nat.le_of_ble_eq_true rfl), (Nat.le_of_ble_eq_true rfl)⟩ (Nat.le_of_ble_eq_true rfl) rfl (kI_ (F := fun st M' => VV X mX11_pair rX11_pair (pI_ post) 73 [(0, .inr (.inr (some this))), (1, .inl x1), (3, .inl x3), (4, .inl x4), (5, .inl x5), (6, .inl x6)] st M' 0 0) (fun r16 M17 h => ?_))
    refine vv_if_eq (mi := mX11_pair) (pc := 73) 110 dX11_pair_73 rfl (fun c18 => ?_) (fun c18 => ?_)
    · replace h := h.1 c18
      refine vv_iinc (mi := mX11_pair) (pc := 110) (x6 + 1) 5 [(6, .inl (x6 + 1)), (0, .inr (.inr (some this))), (1, .inl x1), (3, .inl x3), (4, .inl x4), (5, .inl x5)] dX11_pair_110 rfl rfl (Nat.le_of_ble_eq_true rfl) rfl ?_
      refine vv_goto (mi := mX11_pair) (pc := 113) 57 dX11_pair_113 rfl ?_
      refine vv_sub (mi := mX11_pair) [(0, .inr (.inr (some this))), (1, .inl x1), (3, .inl x3), (4, .inl x4), (5, .inl x5), (6, .inl (x6 + 1))] [1, 2, 3, 4, 5, 0] rfl ?_
      exact hb57 _ _ _ _ _ _ _ h
    · replace h := h.2 c18
      refine vv_aload_n (mi := mX11_pair) (pc := 76) 0 dX11_pair_76 rfl rfl ?_
      refine vv_iload (mi := mX11_pair) (pc := 77) 4 dX11_pair_77 rfl ?_
      refine vv_iload (mi := mX11_pair) (pc := 79) 5 dX11_pair_79 rfl ?_
      obtain ⟨ht19, h⟩ := h
      refine vv_callV (mi := mX11_pair) (pc := 81) (rest := []) (As := [.inl x5, .inl x6]) (ctX11_isPair (X := X) h) dX11_pair_81 rfl ht19 (Nat.le_of_ble_eq_true rfl) rfl mb_X11_isPair rfl ml_X11_200 im_X11_isPair se_X11_isPair ⟨(Nat.le_of_ble_eq_true rfl), (Nat.le_of_ble_eq_true rfl)⟩ ⟨(Nat.le_of_ble_eq_true rfl), (Nat.le_of_ble_eq_true rfl)⟩ (Nat.le_of_ble_eq_true rfl) rfl (kI_ (F := fun st M' => VV X mX11_pair rX11_pair (pI_ post) 84 [(0, .inr (.inr (some this))), (1, .inl x1), (3, .inl x3), (4, .inl x4), (5, .inl x5), (6, .inl x6)] st M' 0 0) (fun r20 M21 h => ?_))
      refine vv_if_ne (mi := mX11_pair) (pc := 84) 90 dX11_pair_84 rfl (fun c22 => ?_) (fun c22 => ?_)
      · replace h := h.1 c22
        refine vv_iload (mi := mX11_pair) (pc := 90) 3 dX11_pair_90 rfl ?_
        refine vv_if_ne (mi := mX11_pair) (pc := 92) 107 dX11_pair_92 rfl (fun c23 => ?_) (fun c23 => ?_)
        · replace h := h.1 c23
          refine vv_iinc (mi := mX11_pair) (pc := 107) (x4 + (-1)) 3 [(4, .inl (x4 + (-1))), (0, .inr (.inr (some this))), (1, .inl x1), (3, .inl x3), (5, .inl x5), (6, .inl x6)] dX11_pair_107 rfl rfl (Nat.le_of_ble_eq_true rfl) rfl ?_
          refine vv_iinc (mi := mX11_pair) (pc := 110) (x6 + 1) 5 [(6, .inl (x6 + 1)), (4, .inl (x4 + (-1))), (0, .inr (.inr (some this))), (1, .inl x1), (3, .inl x3), (5, .inl x5)] dX11_pair_110 rfl rfl (Nat.le_of_ble_eq_true rfl) rfl ?_
          refine vv_goto (mi := mX11_pair) (pc := 113) 57 dX11_pair_113 rfl ?_
          refine vv_sub (mi := mX11_pair) [(0, .inr (.inr (some this))), (1, .inl x1), (3, .inl x3), (4, .inl (x4 + (-1))), (5, .inl x5), (6, .inl (x6 + 1))] [2, 3, 4, 1, 5, 0] rfl ?_
          exact hb57 _ _ _ _ _ _ _ h
        · replace h := h.2 c23
          refine vv_iload_n (mi := mX11_pair) (pc := 95) 2 dX11_pair_95 rfl rfl ?_
          refine vv_if_ne (mi := mX11_pair) (pc := 96) 104 dX11_pair_96 rfl (fun c24 => ?_) (fun c24 => ?_)
          · replace h := h.1 c24
            refine vv_iload (mi := mX11_pair) (pc := 104) 5 dX11_pair_104 rfl ?_
            exact vv_iret (mi := mX11_pair) (pc := 106) dX11_pair_106 rfl (Nat.le_of_ble_eq_true rfl) (Nat.le_of_ble_eq_true rfl) h
          · replace h := h.2 c24
            refine vv_iload (mi := mX11_pair) (pc := 99) 4 dX11_pair_99 rfl ?_
            refine vv_goto (mi := mX11_pair) (pc := 101) 106 dX11_pair_101 rfl ?_
            exact vv_iret (mi := mX11_pair) (pc := 106) dX11_pair_106 rfl (Nat.le_of_ble_eq_true rfl) (Nat.le_of_ble_eq_true rfl) h
      · replace h := h.2 c22
        refine vv_goto (mi := mX11_pair) (pc := 87) 110 dX11_pair_87 rfl ?_
        refine vv_iinc (mi := mX11_pair) (pc := 110) (x6 + 1) 5 [(6, .inl (x6 + 1)), (0, .inr (.inr (some this))), (1, .inl x1), (3, .inl x3), (4, .inl x4), (5, .inl x5)] dX11_pair_110 rfl rfl (Nat.le_of_ble_eq_true rfl) rfl ?_
        refine vv_goto (mi := mX11_pair) (pc := 113) 57 dX11_pair_113 rfl ?_
        refine vv_sub (mi := mX11_pair) [(0, .inr (.inr (some this))), (1, .inl x1), (3, .inl x3), (4, .inl x4), (5, .inl x5), (6, .inl (x6 + 1))] [1, 2, 3, 4, 5, 0] rfl ?_
        exact hb57 _ _ _ _ _ _ _ h
theorem loX11_pair_57 {X : Cx_} {kb29 : Nat → Int32 → Int32 → Int32 → Int32 → Mm → Prop} {post : Int32 → Mm → Prop} (hb29 : ∀ (this : Nat) (x1 : Int32) (x3 : Int32) (x4 : Int32) (x5 : Int32) (M : Mm), kb29 this x1 x3 x4 x5 M → VV X mX11_pair rX11_pair (pI_ post) 29 [(0, .inr (.inr (some this))), (1, .inl x1), (3, .inl x3), (4, .inl x4), (5, .inl x5)] [] M 0 0) : ∀ (fu : Nat) {this : Nat} {x1 : Int32} {x3 : Int32} {x4 : Int32} {x5 : Int32} {x6 : Int32} {M : Mm}, DX11_pair_57 kb29 post fu this x1 x3 x4 x5 x6 M → VV X mX11_pair rX11_pair (pI_ post) 57 [(0, .inr (.inr (some this))), (1, .inl x1), (3, .inl x3), (4, .inl x4), (5, .inl x5), (6, .inl x6)] [] M 0 0
  | 0, _, _, _, _, _, _, _, h => False.elim h
  | fu + 1, _, _, _, _, _, _, _, h => bX11_pair_57 hb29 (fun this x1 x3 x4 x5 x6 M h => loX11_pair_57 hb29 fu h) h
set_option maxHeartbeats 4000000 in
set_option maxRecDepth 100000 in
theorem bX11_pair_29 {X : Cx_} {kb29 : Nat → Int32 → Int32 → Int32 → Int32 → Mm → Prop} {post : Int32 → Mm → Prop} (hb29 : ∀ (this : Nat) (x1 : Int32) (x3 : Int32) (x4 : Int32) (x5 : Int32) (M : Mm), kb29 this x1 x3 x4 x5 M → VV X mX11_pair rX11_pair (pI_ post) 29 [(0, .inr (.inr (some this))), (1, .inl x1), (3, .inl x3), (4, .inl x4), (5, .inl x5)] [] M 0 0) {this : Nat} {x1 : Int32} {x3 : Int32} {x4 : Int32} {x5 : Int32} {M : Mm} (h : BX11_pair_29 kb29 post this x1 x3 x4 x5 M) : VV X mX11_pair rX11_pair (pI_ post) 29 [(0, .inr (.inr (some this))), (1, .inl x1), (3, .inl x3), (4, .inl x4), (5, .inl x5)] [] M 0 0 := by
  unfold BX11_pair_29 at h
  refine vv_iload (mi := mX11_pair) (pc := 29) 4 dX11_pair_29 rfl ?_
  refine vv_aload_n (mi := mX11_pair) (pc := 31) 0 dX11_pair_31 rfl rfl ?_
  obtain ⟨ht8, h⟩ := h
  refine vv_getI (mi := mX11_pair) (pc := 32) 11 1 rfl ht8 fl_X11_130 (Nat.le_of_ble_eq_true rfl) dX11_pair_32 ?_
  refine vv_icmp_ge (mi := mX11_pair) (pc := 35) 122 dX11_pair_35 rfl (fun c9 => ?_) (fun c9 => ?_)
  · replace h := h.1 c9
    refine vv_iconst (mi := mX11_pair) (pc := 122) (-1) dX11_pair_122 rfl ?_
    exact vv_iret (mi := mX11_pair) (pc := 123) dX11_pair_123 rfl (Nat.le_of_ble_eq_true rfl) (Nat.le_of_ble_eq_true rfl) h
  · replace h := h.2 c9
    refine vv_aload_n (mi := mX11_pair) (pc := 38) 0 dX11_pair_38 rfl rfl ?_
    refine vv_iload (mi := mX11_pair) (pc := 39) 4 dX11_pair_39 rfl ?_
    refine vv_iload_n (mi := mX11_pair) (pc := 41) 1 dX11_pair_41 rfl rfl ?_
    refine vv_callV (mi := mX11_pair) (pc := 42) (rest := []) (As := [.inl x5, .inl x1]) (ctX11_isForce (X := X) h) dX11_pair_42 rfl ht8 (Nat.le_of_ble_eq_true rfl) rfl mb_X11_isForce rfl ml_X11_197 im_X11_isForce se_X11_isForce ⟨(Nat.le_of_ble_eq_true rfl), (Nat.le_of_ble_eq_true rfl)⟩ ⟨(Nat.le_of_ble_eq_true rfl), (Nat.le_of_ble_eq_true rfl)⟩ (Nat.le_of_ble_eq_true rfl) rfl (kI_ (F := fun st M' => VV X mX11_pair rX11_pair (pI_ post) 45 [(0, .inr (.inr (some this))), (1, .inl x1), (3, .inl x3), (4, .inl x4), (5, .inl x5)] st M' 0 0) (fun r10 M11 h => ?_))
    refine vv_if_ne (mi := mX11_pair) (pc := 45) 51 dX11_pair_45 rfl (fun c12 => ?_) (fun c12 => ?_)
    · replace h := h.1 c12
      refine vv_iload (mi := mX11_pair) (pc := 51) 4 dX11_pair_51 rfl ?_
      refine vv_iconst (mi := mX11_pair) (pc := 53) 1 dX11_pair_53 rfl ?_
      refine vv_iadd (mi := mX11_pair) (pc := 54) dX11_pair_54 ?_
      obtain ⟨v13, ev13⟩ : ∃ z : Int32, z = (x5 + 1) := ⟨_, rfl⟩
      refine vv_namI ev13 ?_
      replace h := h _ ev13
      refine vv_istore (mi := mX11_pair) (pc := 55) [(6, .inl v13), (0, .inr (.inr (some this))), (1, .inl x1), (3, .inl x3), (4, .inl x4), (5, .inl x5)] dX11_pair_55 (Nat.le_of_ble_eq_true rfl) rfl ?_
      refine vv_sub (mi := mX11_pair) [(0, .inr (.inr (some this))), (1, .inl x1), (3, .inl x3), (4, .inl x4), (5, .inl x5), (6, .inl v13)] [1, 2, 3, 4, 5, 0] rfl ?_
      obtain ⟨fu, h⟩ := h
      exact loX11_pair_57 (X := X) hb29 fu h
    · replace h := h.2 c12
      refine vv_goto (mi := mX11_pair) (pc := 48) 116 dX11_pair_48 rfl ?_
      refine vv_iinc (mi := mX11_pair) (pc := 116) (x5 + 1) 4 [(5, .inl (x5 + 1)), (0, .inr (.inr (some this))), (1, .inl x1), (3, .inl x3), (4, .inl x4)] dX11_pair_116 rfl rfl (Nat.le_of_ble_eq_true rfl) rfl ?_
      refine vv_goto (mi := mX11_pair) (pc := 119) 29 dX11_pair_119 rfl ?_
      refine vv_sub (mi := mX11_pair) [(0, .inr (.inr (some this))), (1, .inl x1), (3, .inl x3), (4, .inl x4), (5, .inl (x5 + 1))] [1, 2, 3, 4, 0] rfl ?_
      exact hb29 _ _ _ _ _ _ h
theorem loX11_pair_29 {X : Cx_}  {post : Int32 → Mm → Prop}  : ∀ (fu : Nat) {this : Nat} {x1 : Int32} {x3 : Int32} {x4 : Int32} {x5 : Int32} {M : Mm}, DX11_pair_29  post fu this x1 x3 x4 x5 M → VV X mX11_pair rX11_pair (pI_ post) 29 [(0, .inr (.inr (some this))), (1, .inl x1), (3, .inl x3), (4, .inl x4), (5, .inl x5)] [] M 0 0
  | 0, _, _, _, _, _, _, h => False.elim h
  | fu + 1, _, _, _, _, _, _, h => bX11_pair_29 (fun this x1 x3 x4 x5 M h => loX11_pair_29  fu h) h
set_option maxHeartbeats 4000000 in
set_option maxRecDepth 100000 in
theorem ctX11_pair {X : Cx_} {this : Nat} {a1 : Int32} {a2 : Int32} {a3 : Int32} {M : Mm} {post : Int32 → Mm → Prop} (h : PX11_pair this a1 a2 a3 M post) : CT X mX11_pair rX11_pair [.inr (.inr (some this)), .inl a1, .inl a2, .inl a3] M (pI_ post) := by
  unfold PX11_pair at h
  refine CT.of (by decide +kernel) (Nat.le_of_ble_eq_true rfl) ?_
  show VV X mX11_pair rX11_pair (pI_ post) 0 [(0, .inr (.inr (some this))), (1, .inl a1), (2, .inl a2), (3, .inl a3)] [] M 0 0
  refine vv_iload_n (mi := mX11_pair) (pc := 0) 1 dX11_pair_0 rfl rfl ?_
  refine vv_callS (mi := mX11_pair) (pc := 1) (rest := []) (As := [.inl a1]) (ctX11_isDay (X := X) h) dX11_pair_1 mb_X11_isDay rfl ml_X11_194 sc_X11_isDay ⟨(Nat.le_of_ble_eq_true rfl), (Nat.le_of_ble_eq_true rfl)⟩ ⟨(Nat.le_of_ble_eq_true rfl), (Nat.le_of_ble_eq_true rfl)⟩ (Nat.le_of_ble_eq_true rfl) rfl (kI_ (F := fun st M' => VV X mX11_pair rX11_pair (pI_ post) 4 [(0, .inr (.inr (some this))), (1, .inl a1), (2, .inl a2), (3, .inl a3)] st M' 0 0) (fun r1 M2 h => ?_))
  refine vv_if_eq (mi := mX11_pair) (pc := 4) 21 dX11_pair_4 rfl (fun c3 => ?_) (fun c3 => ?_)
  · replace h := h.1 c3
    refine vv_iconst (mi := mX11_pair) (pc := 21) (-1) dX11_pair_21 rfl ?_
    exact vv_iret (mi := mX11_pair) (pc := 22) dX11_pair_22 rfl (Nat.le_of_ble_eq_true rfl) (Nat.le_of_ble_eq_true rfl) h
  · replace h := h.2 c3
    refine vv_iload_n (mi := mX11_pair) (pc := 7) 2 dX11_pair_7 rfl rfl ?_
    refine vv_if_lt (mi := mX11_pair) (pc := 8) 21 dX11_pair_8 rfl (fun c4 => ?_) (fun c4 => ?_)
    · replace h := h.1 c4
      refine vv_iconst (mi := mX11_pair) (pc := 21) (-1) dX11_pair_21 rfl ?_
      exact vv_iret (mi := mX11_pair) (pc := 22) dX11_pair_22 rfl (Nat.le_of_ble_eq_true rfl) (Nat.le_of_ble_eq_true rfl) h
    · replace h := h.2 c4
      refine vv_iload_n (mi := mX11_pair) (pc := 11) 3 dX11_pair_11 rfl rfl ?_
      refine vv_i2l (mi := mX11_pair) (pc := 12) dX11_pair_12 ?_
      refine vv_lconst (mi := mX11_pair) (pc := 13) 0 dX11_pair_13 rfl ?_
      refine vv_lconst (mi := mX11_pair) (pc := 14) 1 dX11_pair_14 rfl ?_
      refine vv_callS (mi := mX11_pair) (pc := 15) (rest := []) (As := [.inr (.inl (Int32.toInt64 a3)), .inr (.inl 0), .inr (.inl 1)]) (ctX11_in (X := X) h) dX11_pair_15 mb_X11_in rfl ml_X11_110 sc_X11_in ⟨(Nat.le_of_ble_eq_true rfl), (Nat.le_of_ble_eq_true rfl)⟩ ⟨(Nat.le_of_ble_eq_true rfl), (Nat.le_of_ble_eq_true rfl)⟩ (Nat.le_of_ble_eq_true rfl) rfl (kI_ (F := fun st M' => VV X mX11_pair rX11_pair (pI_ post) 18 [(0, .inr (.inr (some this))), (1, .inl a1), (2, .inl a2), (3, .inl a3)] st M' 0 0) (fun r5 M6 h => ?_))
      refine vv_if_ne (mi := mX11_pair) (pc := 18) 23 dX11_pair_18 rfl (fun c7 => ?_) (fun c7 => ?_)
      · replace h := h.1 c7
        refine vv_iload_n (mi := mX11_pair) (pc := 23) 2 dX11_pair_23 rfl rfl ?_
        refine vv_istore (mi := mX11_pair) (pc := 24) [(4, .inl a2), (0, .inr (.inr (some this))), (1, .inl a1), (2, .inl a2), (3, .inl a3)] dX11_pair_24 (Nat.le_of_ble_eq_true rfl) rfl ?_
        refine vv_iconst (mi := mX11_pair) (pc := 26) 0 dX11_pair_26 rfl ?_
        refine vv_istore (mi := mX11_pair) (pc := 27) [(5, .inl 0), (4, .inl a2), (0, .inr (.inr (some this))), (1, .inl a1), (2, .inl a2), (3, .inl a3)] dX11_pair_27 (Nat.le_of_ble_eq_true rfl) rfl ?_
        refine vv_sub (mi := mX11_pair) [(0, .inr (.inr (some this))), (1, .inl a1), (3, .inl a3), (4, .inl a2), (5, .inl 0)] [2, 3, 5, 1, 0] rfl ?_
        obtain ⟨fu, h⟩ := h
        exact loX11_pair_29 (X := X)  fu h
      · replace h := h.2 c7
        refine vv_iconst (mi := mX11_pair) (pc := 21) (-1) dX11_pair_21 rfl ?_
        exact vv_iret (mi := mX11_pair) (pc := 22) dX11_pair_22 rfl (Nat.le_of_ble_eq_true rfl) (Nat.le_of_ble_eq_true rfl) h
