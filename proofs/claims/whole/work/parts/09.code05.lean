set_option maxHeartbeats 4000000 in
set_option maxRecDepth 100000 in
theorem bX11_follow_3 {X : Cx_} {kb3 : Nat → Int64 → Int32 → Int32 → Mm → Prop} {post : Int32 → Mm → Prop} (hb3 : ∀ (this : Nat) (x2 : Int64) (x4 : Int32) (x5 : Int32) (M : Mm), kb3 this x2 x4 x5 M → VV X mX11_follow rX11_follow (pI_ post) 3 [(0, .inr (.inr (some this))), (2, .inr (.inl x2)), (4, .inl x4), (5, .inl x5)] [] M 0 0) {this : Nat} {x2 : Int64} {x4 : Int32} {x5 : Int32} {M : Mm} (h : BX11_follow_3 kb3 post this x2 x4 x5 M) : VV X mX11_follow rX11_follow (pI_ post) 3 [(0, .inr (.inr (some this))), (2, .inr (.inl x2)), (4, .inl x4), (5, .inl x5)] [] M 0 0 := by
  unfold BX11_follow_3 at h
  refine vv_aload_n (mi := mX11_follow) (pc := 3) 0 dX11_follow_3 rfl rfl ?_
  obtain ⟨ht1, h⟩ := h
  refine vv_getR (mi := mX11_follow) (pc := 4) 11 9 rfl ht1 fl_X11_31 (Nat.le_of_ble_eq_true rfl) dX11_follow_4 ?_
  refine vv_iload (mi := mX11_follow) (pc := 7) 3 dX11_follow_7 rfl ?_
  obtain ⟨aq2, hs3, h⟩ := h
  obtain ⟨ht4, h⟩ := h
  obtain ⟨hi5, h⟩ := h
  refine vv_iald (mi := mX11_follow) (pc := 9) hs3 ht4 hi5 dX11_follow_9 ?_
  refine vv_iconst (mi := mX11_follow) (pc := 10) (-1) dX11_follow_10 rfl ?_
  refine vv_icmp_eq (mi := mX11_follow) (pc := 11) 86 dX11_follow_11 rfl (fun c6 => ?_) (fun c6 => ?_)
  · replace h := h.1 c6
    refine vv_iload (mi := mX11_follow) (pc := 86) 2 dX11_follow_86 rfl ?_
    refine vv_aload_n (mi := mX11_follow) (pc := 88) 0 dX11_follow_88 rfl rfl ?_
    refine vv_getR (mi := mX11_follow) (pc := 89) 11 8 rfl ht1 fl_X11_28 (Nat.le_of_ble_eq_true rfl) dX11_follow_89 ?_
    refine vv_iload (mi := mX11_follow) (pc := 92) 3 dX11_follow_92 rfl ?_
    obtain ⟨aq7, hs8, h⟩ := h
    obtain ⟨ht9, h⟩ := h
    obtain ⟨hi10, h⟩ := h
    refine vv_iald (mi := mX11_follow) (pc := 94) hs8 ht9 hi10 dX11_follow_94 ?_
    refine vv_icmp_lt (mi := mX11_follow) (pc := 95) 103 dX11_follow_95 rfl (fun c11 => ?_) (fun c11 => ?_)
    · replace h := h.1 c11
      refine vv_iconst (mi := mX11_follow) (pc := 103) (-1) dX11_follow_103 rfl ?_
      exact vv_iret (mi := mX11_follow) (pc := 104) dX11_follow_104 rfl (Nat.le_of_ble_eq_true rfl) (Nat.le_of_ble_eq_true rfl) h
    · replace h := h.2 c11
      refine vv_iload (mi := mX11_follow) (pc := 98) 3 dX11_follow_98 rfl ?_
      refine vv_goto (mi := mX11_follow) (pc := 100) 104 dX11_follow_100 rfl ?_
      exact vv_iret (mi := mX11_follow) (pc := 104) dX11_follow_104 rfl (Nat.le_of_ble_eq_true rfl) (Nat.le_of_ble_eq_true rfl) h
  · replace h := h.2 c6
    refine vv_iload (mi := mX11_follow) (pc := 14) 2 dX11_follow_14 rfl ?_
    refine vv_aload_n (mi := mX11_follow) (pc := 16) 0 dX11_follow_16 rfl rfl ?_
    refine vv_getR (mi := mX11_follow) (pc := 17) 11 9 rfl ht1 fl_X11_31 (Nat.le_of_ble_eq_true rfl) dX11_follow_17 ?_
    refine vv_iload (mi := mX11_follow) (pc := 20) 3 dX11_follow_20 rfl ?_
    obtain ⟨hi12, h⟩ := h
    refine vv_iald (mi := mX11_follow) (pc := 22) hs3 ht4 hi12 dX11_follow_22 ?_
    refine vv_icmp_lt (mi := mX11_follow) (pc := 23) 86 dX11_follow_23 rfl (fun c13 => ?_) (fun c13 => ?_)
    · replace h := h.1 c13
      refine vv_iload (mi := mX11_follow) (pc := 86) 2 dX11_follow_86 rfl ?_
      refine vv_aload_n (mi := mX11_follow) (pc := 88) 0 dX11_follow_88 rfl rfl ?_
      refine vv_getR (mi := mX11_follow) (pc := 89) 11 8 rfl ht1 fl_X11_28 (Nat.le_of_ble_eq_true rfl) dX11_follow_89 ?_
      refine vv_iload (mi := mX11_follow) (pc := 92) 3 dX11_follow_92 rfl ?_
      obtain ⟨aq14, hs15, h⟩ := h
      obtain ⟨ht16, h⟩ := h
      obtain ⟨hi17, h⟩ := h
      refine vv_iald (mi := mX11_follow) (pc := 94) hs15 ht16 hi17 dX11_follow_94 ?_
      refine vv_icmp_lt (mi := mX11_follow) (pc := 95) 103 dX11_follow_95 rfl (fun c18 => ?_) (fun c18 => ?_)
      · replace h := h.1 c18
        refine vv_iconst (mi := mX11_follow) (pc := 103) (-1) dX11_follow_103 rfl ?_
        exact vv_iret (mi := mX11_follow) (pc := 104) dX11_follow_104 rfl (Nat.le_of_ble_eq_true rfl) (Nat.le_of_ble_eq_true rfl) h
      · replace h := h.2 c18
        refine vv_iload (mi := mX11_follow) (pc := 98) 3 dX11_follow_98 rfl ?_
        refine vv_goto (mi := mX11_follow) (pc := 100) 104 dX11_follow_100 rfl ?_
        exact vv_iret (mi := mX11_follow) (pc := 104) dX11_follow_104 rfl (Nat.le_of_ble_eq_true rfl) (Nat.le_of_ble_eq_true rfl) h
    · replace h := h.2 c13
      refine vv_aload_n (mi := mX11_follow) (pc := 26) 0 dX11_follow_26 rfl rfl ?_
      refine vv_getR (mi := mX11_follow) (pc := 27) 11 11 rfl ht1 fl_X11_37 (Nat.le_of_ble_eq_true rfl) dX11_follow_27 ?_
      refine vv_iload (mi := mX11_follow) (pc := 30) 3 dX11_follow_30 rfl ?_
      obtain ⟨aq19, hs20, h⟩ := h
      obtain ⟨ht21, h⟩ := h
      obtain ⟨hi22, h⟩ := h
      refine vv_iald (mi := mX11_follow) (pc := 32) hs20 ht21 hi22 dX11_follow_32 ?_
      refine vv_aload_n (mi := mX11_follow) (pc := 33) 0 dX11_follow_33 rfl rfl ?_
      refine vv_getR (mi := mX11_follow) (pc := 34) 11 9 rfl ht1 fl_X11_31 (Nat.le_of_ble_eq_true rfl) dX11_follow_34 ?_
      refine vv_iload (mi := mX11_follow) (pc := 37) 3 dX11_follow_37 rfl ?_
      obtain ⟨hi23, h⟩ := h
      refine vv_iald (mi := mX11_follow) (pc := 39) hs3 ht4 hi23 dX11_follow_39 ?_
      refine vv_icmp_eq (mi := mX11_follow) (pc := 40) 45 dX11_follow_40 rfl (fun c24 => ?_) (fun c24 => ?_)
      · replace h := h.1 c24
        refine vv_aload_n (mi := mX11_follow) (pc := 45) 0 dX11_follow_45 rfl rfl ?_
        refine vv_getR (mi := mX11_follow) (pc := 46) 11 13 rfl ht1 fl_X11_43 (Nat.le_of_ble_eq_true rfl) dX11_follow_46 ?_
        refine vv_iload (mi := mX11_follow) (pc := 49) 3 dX11_follow_49 rfl ?_
        obtain ⟨aq25, hs26, h⟩ := h
        obtain ⟨ht27, h⟩ := h
        obtain ⟨hi28, h⟩ := h
        refine vv_iald (mi := mX11_follow) (pc := 51) hs26 ht27 hi28 dX11_follow_51 ?_
        refine vv_lload_n (mi := mX11_follow) (pc := 52) 1 dX11_follow_52 rfl rfl ?_
        refine vv_iconst (mi := mX11_follow) (pc := 53) 0 dX11_follow_53 rfl ?_
        refine vv_callS (mi := mX11_follow) (pc := 54) (rest := [.inl (ddI M aq25 (Int32.toNatClampNeg x5))]) (As := [.inr (.inl x2), .inl 0]) (ctX11_figureAt (X := X) h) dX11_follow_54 mb_X11_figureAt rfl ml_X11_183 sc_X11_figureAt ⟨(Nat.le_of_ble_eq_true rfl), (Nat.le_of_ble_eq_true rfl)⟩ ⟨(Nat.le_of_ble_eq_true rfl), (Nat.le_of_ble_eq_true rfl)⟩ (Nat.le_of_ble_eq_true rfl) rfl (kI_ (F := fun st M' => VV X mX11_follow rX11_follow (pI_ post) 57 [(0, .inr (.inr (some this))), (2, .inr (.inl x2)), (4, .inl x4), (5, .inl x5)] st M' 0 0) (fun r29 M30 h => ?_))
        refine vv_ishr (mi := mX11_follow) (pc := 57) dX11_follow_57 ?_
        refine vv_iconst (mi := mX11_follow) (pc := 58) 1 dX11_follow_58 rfl ?_
        refine vv_iand (mi := mX11_follow) (pc := 59) dX11_follow_59 ?_
        refine vv_iconst (mi := mX11_follow) (pc := 60) 1 dX11_follow_60 rfl ?_
        refine vv_icmp_ne (mi := mX11_follow) (pc := 61) 74 dX11_follow_61 rfl (fun c31 => ?_) (fun c31 => ?_)
        · replace h := h.1 c31
          refine vv_aload_n (mi := mX11_follow) (pc := 74) 0 dX11_follow_74 rfl rfl ?_
          obtain ⟨ht32, h⟩ := h
          refine vv_getR (mi := mX11_follow) (pc := 75) 11 12 rfl ht32 fl_X11_40 (Nat.le_of_ble_eq_true rfl) dX11_follow_75 ?_
          refine vv_iload (mi := mX11_follow) (pc := 78) 3 dX11_follow_78 rfl ?_
          obtain ⟨aq33, hs34, h⟩ := h
          obtain ⟨ht35, h⟩ := h
          obtain ⟨hi36, h⟩ := h
          refine vv_iald (mi := mX11_follow) (pc := 80) hs34 ht35 hi36 dX11_follow_80 ?_
          obtain ⟨v37, ev37⟩ : ∃ z : Int32, z = (ddI M30 aq33 (Int32.toNatClampNeg x5)) := ⟨_, rfl⟩
          refine vv_namI ev37 ?_
          replace h := h _ ev37
          refine vv_istore (mi := mX11_follow) (pc := 81) [(5, .inl v37), (0, .inr (.inr (some this))), (2, .inr (.inl x2)), (4, .inl x4)] dX11_follow_81 (Nat.le_of_ble_eq_true rfl) rfl ?_
          refine vv_goto (mi := mX11_follow) (pc := 83) 3 dX11_follow_83 rfl ?_
          refine vv_sub (mi := mX11_follow) [(0, .inr (.inr (some this))), (2, .inr (.inl x2)), (4, .inl x4), (5, .inl v37)] [1, 2, 3, 0] rfl ?_
          exact hb3 _ _ _ _ _ h
        · replace h := h.2 c31
          refine vv_aload_n (mi := mX11_follow) (pc := 64) 0 dX11_follow_64 rfl rfl ?_
          obtain ⟨ht38, h⟩ := h
          refine vv_getR (mi := mX11_follow) (pc := 65) 11 14 rfl ht38 fl_X11_46 (Nat.le_of_ble_eq_true rfl) dX11_follow_65 ?_
          refine vv_iload (mi := mX11_follow) (pc := 68) 3 dX11_follow_68 rfl ?_
          obtain ⟨aq39, hs40, h⟩ := h
          obtain ⟨ht41, h⟩ := h
          obtain ⟨hi42, h⟩ := h
          refine vv_iald (mi := mX11_follow) (pc := 70) hs40 ht41 hi42 dX11_follow_70 ?_
          refine vv_goto (mi := mX11_follow) (pc := 71) 81 dX11_follow_71 rfl ?_
          obtain ⟨v43, ev43⟩ : ∃ z : Int32, z = (ddI M30 aq39 (Int32.toNatClampNeg x5)) := ⟨_, rfl⟩
          refine vv_namI ev43 ?_
          replace h := h _ ev43
          refine vv_istore (mi := mX11_follow) (pc := 81) [(5, .inl v43), (0, .inr (.inr (some this))), (2, .inr (.inl x2)), (4, .inl x4)] dX11_follow_81 (Nat.le_of_ble_eq_true rfl) rfl ?_
          refine vv_goto (mi := mX11_follow) (pc := 83) 3 dX11_follow_83 rfl ?_
          refine vv_sub (mi := mX11_follow) [(0, .inr (.inr (some this))), (2, .inr (.inl x2)), (4, .inl x4), (5, .inl v43)] [1, 2, 3, 0] rfl ?_
          exact hb3 _ _ _ _ _ h
      · replace h := h.2 c24
        refine vv_iconst (mi := mX11_follow) (pc := 43) (-1) dX11_follow_43 rfl ?_
        exact vv_iret (mi := mX11_follow) (pc := 44) dX11_follow_44 rfl (Nat.le_of_ble_eq_true rfl) (Nat.le_of_ble_eq_true rfl) h
theorem loX11_follow_3 {X : Cx_}  {post : Int32 → Mm → Prop}  : ∀ (fu : Nat) {this : Nat} {x2 : Int64} {x4 : Int32} {x5 : Int32} {M : Mm}, DX11_follow_3  post fu this x2 x4 x5 M → VV X mX11_follow rX11_follow (pI_ post) 3 [(0, .inr (.inr (some this))), (2, .inr (.inl x2)), (4, .inl x4), (5, .inl x5)] [] M 0 0
  | 0, _, _, _, _, _, h => False.elim h
  | fu + 1, _, _, _, _, _, h => bX11_follow_3 (fun this x2 x4 x5 M h => loX11_follow_3  fu h) h
set_option maxHeartbeats 4000000 in
set_option maxRecDepth 100000 in
theorem ctX11_follow {X : Cx_} {this : Nat} {a1 : Int32} {a2 : Int64} {a3 : Int32} {M : Mm} {post : Int32 → Mm → Prop} (h : PX11_follow this a1 a2 a3 M post) : CT X mX11_follow rX11_follow [.inr (.inr (some this)), .inl a1, .inr (.inl a2), .inl a3] M (pI_ post) := by
  unfold PX11_follow at h
  refine CT.of (by decide +kernel) (Nat.le_of_ble_eq_true rfl) ?_
  show VV X mX11_follow rX11_follow (pI_ post) 0 [(0, .inr (.inr (some this))), (1, .inl a1), (2, .inr (.inl a2)), (4, .inl a3)] [] M 0 0
  refine vv_iload_n (mi := mX11_follow) (pc := 0) 1 dX11_follow_0 rfl rfl ?_
  refine vv_istore (mi := mX11_follow) (pc := 1) [(5, .inl a1), (0, .inr (.inr (some this))), (1, .inl a1), (2, .inr (.inl a2)), (4, .inl a3)] dX11_follow_1 (Nat.le_of_ble_eq_true rfl) rfl ?_
  refine vv_sub (mi := mX11_follow) [(0, .inr (.inr (some this))), (2, .inr (.inl a2)), (4, .inl a3), (5, .inl a1)] [1, 3, 4, 0] rfl ?_
  obtain ⟨fu, h⟩ := h
  exact loX11_follow_3 (X := X)  fu h
set_option maxHeartbeats 4000000 in
set_option maxRecDepth 100000 in
theorem ctX11_blockOf {X : Cx_} {this : Nat} {a1 : Int32} {a2 : Int32} {M : Mm} {post : Int32 → Mm → Prop} (h : PX11_blockOf this a1 a2 M post) : CT X mX11_blockOf rX11_blockOf [.inr (.inr (some this)), .inl a1, .inl a2] M (pI_ post) := by
  unfold PX11_blockOf at h
  refine CT.of (by decide +kernel) (Nat.le_of_ble_eq_true rfl) ?_
  show VV X mX11_blockOf rX11_blockOf (pI_ post) 0 [(0, .inr (.inr (some this))), (1, .inl a1), (2, .inl a2)] [] M 0 0
  refine vv_iload_n (mi := mX11_blockOf) (pc := 0) 2 dX11_blockOf_0 rfl rfl ?_
  refine vv_aload_n (mi := mX11_blockOf) (pc := 1) 0 dX11_blockOf_1 rfl rfl ?_
  obtain ⟨ht1, h⟩ := h
  refine vv_getR (mi := mX11_blockOf) (pc := 2) 11 19 rfl ht1 fl_X11_59 (Nat.le_of_ble_eq_true rfl) dX11_blockOf_2 ?_
  refine vv_iload_n (mi := mX11_blockOf) (pc := 5) 1 dX11_blockOf_5 rfl rfl ?_
  obtain ⟨aq2, hs3, h⟩ := h
  obtain ⟨ht4, h⟩ := h
  obtain ⟨hi5, h⟩ := h
  refine vv_iald (mi := mX11_blockOf) (pc := 6) hs3 ht4 hi5 dX11_blockOf_6 ?_
  refine vv_icmp_lt (mi := mX11_blockOf) (pc := 7) 30 dX11_blockOf_7 rfl (fun c6 => ?_) (fun c6 => ?_)
  · replace h := h.1 c6
    refine vv_iconst (mi := mX11_blockOf) (pc := 30) (-1) dX11_blockOf_30 rfl ?_
    exact vv_iret (mi := mX11_blockOf) (pc := 31) dX11_blockOf_31 rfl (Nat.le_of_ble_eq_true rfl) (Nat.le_of_ble_eq_true rfl) h
  · replace h := h.2 c6
    refine vv_aload_n (mi := mX11_blockOf) (pc := 10) 0 dX11_blockOf_10 rfl rfl ?_
    refine vv_getR (mi := mX11_blockOf) (pc := 11) 11 20 rfl ht1 fl_X11_62 (Nat.le_of_ble_eq_true rfl) dX11_blockOf_11 ?_
    refine vv_iload_n (mi := mX11_blockOf) (pc := 14) 1 dX11_blockOf_14 rfl rfl ?_
    obtain ⟨aq7, hs8, h⟩ := h
    obtain ⟨ht9, h⟩ := h
    obtain ⟨hi10, h⟩ := h
    refine vv_iald (mi := mX11_blockOf) (pc := 15) hs8 ht9 hi10 dX11_blockOf_15 ?_
    refine vv_iconst (mi := mX11_blockOf) (pc := 16) (-1) dX11_blockOf_16 rfl ?_
    refine vv_icmp_eq (mi := mX11_blockOf) (pc := 17) 32 dX11_blockOf_17 rfl (fun c11 => ?_) (fun c11 => ?_)
    · replace h := h.1 c11
      refine vv_aload_n (mi := mX11_blockOf) (pc := 32) 0 dX11_blockOf_32 rfl rfl ?_
      refine vv_aload_n (mi := mX11_blockOf) (pc := 33) 0 dX11_blockOf_33 rfl rfl ?_
      refine vv_getR (mi := mX11_blockOf) (pc := 34) 11 17 rfl ht1 fl_X11_53 (Nat.le_of_ble_eq_true rfl) dX11_blockOf_34 ?_
      refine vv_iload_n (mi := mX11_blockOf) (pc := 37) 1 dX11_blockOf_37 rfl rfl ?_
      obtain ⟨aq12, hs13, h⟩ := h
      obtain ⟨ht14, h⟩ := h
      obtain ⟨hi15, h⟩ := h
      refine vv_iald (mi := mX11_blockOf) (pc := 38) hs13 ht14 hi15 dX11_blockOf_38 ?_
      refine vv_aload_n (mi := mX11_blockOf) (pc := 39) 0 dX11_blockOf_39 rfl rfl ?_
      refine vv_getR (mi := mX11_blockOf) (pc := 40) 11 18 rfl ht1 fl_X11_56 (Nat.le_of_ble_eq_true rfl) dX11_blockOf_40 ?_
      refine vv_iload_n (mi := mX11_blockOf) (pc := 43) 1 dX11_blockOf_43 rfl rfl ?_
      obtain ⟨aq16, hs17, h⟩ := h
      obtain ⟨ht18, h⟩ := h
      obtain ⟨hi19, h⟩ := h
      refine vv_lald (mi := mX11_blockOf) (pc := 44) hs17 ht18 hi19 dX11_blockOf_44 ?_
      refine vv_iload_n (mi := mX11_blockOf) (pc := 45) 2 dX11_blockOf_45 rfl rfl ?_
      refine vv_callV (mi := mX11_blockOf) (pc := 46) (rest := []) (As := [.inl (ddI M aq12 (Int32.toNatClampNeg a1)), .inr (.inl (ddL M aq16 (Int32.toNatClampNeg a1))), .inl a2]) (ctX11_follow (X := X) h) dX11_blockOf_46 rfl ht1 (Nat.le_of_ble_eq_true rfl) rfl mb_X11_follow rfl ml_X11_203 im_X11_follow se_X11_follow ⟨(Nat.le_of_ble_eq_true rfl), (Nat.le_of_ble_eq_true rfl)⟩ ⟨(Nat.le_of_ble_eq_true rfl), (Nat.le_of_ble_eq_true rfl)⟩ (Nat.le_of_ble_eq_true rfl) rfl (kI_ (F := fun st M' => VV X mX11_blockOf rX11_blockOf (pI_ post) 49 [(0, .inr (.inr (some this))), (1, .inl a1), (2, .inl a2)] st M' 0 0) (fun r20 M21 h => ?_))
      exact vv_iret (mi := mX11_blockOf) (pc := 49) dX11_blockOf_49 rfl (Nat.le_of_ble_eq_true rfl) (Nat.le_of_ble_eq_true rfl) h
    · replace h := h.2 c11
      refine vv_iload_n (mi := mX11_blockOf) (pc := 20) 2 dX11_blockOf_20 rfl rfl ?_
      refine vv_aload_n (mi := mX11_blockOf) (pc := 21) 0 dX11_blockOf_21 rfl rfl ?_
      refine vv_getR (mi := mX11_blockOf) (pc := 22) 11 20 rfl ht1 fl_X11_62 (Nat.le_of_ble_eq_true rfl) dX11_blockOf_22 ?_
      refine vv_iload_n (mi := mX11_blockOf) (pc := 25) 1 dX11_blockOf_25 rfl rfl ?_
      obtain ⟨hi22, h⟩ := h
      refine vv_iald (mi := mX11_blockOf) (pc := 26) hs8 ht9 hi22 dX11_blockOf_26 ?_
      refine vv_icmp_lt (mi := mX11_blockOf) (pc := 27) 32 dX11_blockOf_27 rfl (fun c23 => ?_) (fun c23 => ?_)
      · replace h := h.1 c23
        refine vv_aload_n (mi := mX11_blockOf) (pc := 32) 0 dX11_blockOf_32 rfl rfl ?_
        refine vv_aload_n (mi := mX11_blockOf) (pc := 33) 0 dX11_blockOf_33 rfl rfl ?_
        refine vv_getR (mi := mX11_blockOf) (pc := 34) 11 17 rfl ht1 fl_X11_53 (Nat.le_of_ble_eq_true rfl) dX11_blockOf_34 ?_
        refine vv_iload_n (mi := mX11_blockOf) (pc := 37) 1 dX11_blockOf_37 rfl rfl ?_
        obtain ⟨aq24, hs25, h⟩ := h
        obtain ⟨ht26, h⟩ := h
        obtain ⟨hi27, h⟩ := h
        refine vv_iald (mi := mX11_blockOf) (pc := 38) hs25 ht26 hi27 dX11_blockOf_38 ?_
        refine vv_aload_n (mi := mX11_blockOf) (pc := 39) 0 dX11_blockOf_39 rfl rfl ?_
        refine vv_getR (mi := mX11_blockOf) (pc := 40) 11 18 rfl ht1 fl_X11_56 (Nat.le_of_ble_eq_true rfl) dX11_blockOf_40 ?_
        refine vv_iload_n (mi := mX11_blockOf) (pc := 43) 1 dX11_blockOf_43 rfl rfl ?_
        obtain ⟨aq28, hs29, h⟩ := h
        obtain ⟨ht30, h⟩ := h
        obtain ⟨hi31, h⟩ := h
        refine vv_lald (mi := mX11_blockOf) (pc := 44) hs29 ht30 hi31 dX11_blockOf_44 ?_
        refine vv_iload_n (mi := mX11_blockOf) (pc := 45) 2 dX11_blockOf_45 rfl rfl ?_
        refine vv_callV (mi := mX11_blockOf) (pc := 46) (rest := []) (As := [.inl (ddI M aq24 (Int32.toNatClampNeg a1)), .inr (.inl (ddL M aq28 (Int32.toNatClampNeg a1))), .inl a2]) (ctX11_follow (X := X) h) dX11_blockOf_46 rfl ht1 (Nat.le_of_ble_eq_true rfl) rfl mb_X11_follow rfl ml_X11_203 im_X11_follow se_X11_follow ⟨(Nat.le_of_ble_eq_true rfl), (Nat.le_of_ble_eq_true rfl)⟩ ⟨(Nat.le_of_ble_eq_true rfl), (Nat.le_of_ble_eq_true rfl)⟩ (Nat.le_of_ble_eq_true rfl) rfl (kI_ (F := fun st M' => VV X mX11_blockOf rX11_blockOf (pI_ post) 49 [(0, .inr (.inr (some this))), (1, .inl a1), (2, .inl a2)] st M' 0 0) (fun r32 M33 h => ?_))
        exact vv_iret (mi := mX11_blockOf) (pc := 49) dX11_blockOf_49 rfl (Nat.le_of_ble_eq_true rfl) (Nat.le_of_ble_eq_true rfl) h
      · replace h := h.2 c23
        refine vv_iconst (mi := mX11_blockOf) (pc := 30) (-1) dX11_blockOf_30 rfl ?_
        exact vv_iret (mi := mX11_blockOf) (pc := 31) dX11_blockOf_31 rfl (Nat.le_of_ble_eq_true rfl) (Nat.le_of_ble_eq_true rfl) h
set_option maxHeartbeats 4000000 in
set_option maxRecDepth 100000 in
theorem bX11_lineOn_3 {X : Cx_} {kb3 : Nat → Int32 → Int64 → Int32 → Int32 → Mm → Prop} {post : Int32 → Mm → Prop} (hb3 : ∀ (this : Nat) (x1 : Int32) (x2 : Int64) (x4 : Int32) (x5 : Int32) (M : Mm), kb3 this x1 x2 x4 x5 M → VV X mX11_lineOn rX11_lineOn (pI_ post) 3 [(0, .inr (.inr (some this))), (1, .inl x1), (2, .inr (.inl x2)), (4, .inl x4), (5, .inl x5)] [] M 0 0) {this : Nat} {x1 : Int32} {x2 : Int64} {x4 : Int32} {x5 : Int32} {M : Mm} (h : BX11_lineOn_3 kb3 post this x1 x2 x4 x5 M) : VV X mX11_lineOn rX11_lineOn (pI_ post) 3 [(0, .inr (.inr (some this))), (1, .inl x1), (2, .inr (.inl x2)), (4, .inl x4), (5, .inl x5)] [] M 0 0 := by
  unfold BX11_lineOn_3 at h
  refine vv_iload (mi := mX11_lineOn) (pc := 3) 4 dX11_lineOn_3 rfl ?_
  refine vv_aload_n (mi := mX11_lineOn) (pc := 5) 0 dX11_lineOn_5 rfl rfl ?_
  obtain ⟨ht1, h⟩ := h
  refine vv_getI (mi := mX11_lineOn) (pc := 6) 11 16 rfl ht1 fl_X11_207 (Nat.le_of_ble_eq_true rfl) dX11_lineOn_6 ?_
  refine vv_icmp_ge (mi := mX11_lineOn) (pc := 9) 45 dX11_lineOn_9 rfl (fun c2 => ?_) (fun c2 => ?_)
  · replace h := h.1 c2
    refine vv_iconst (mi := mX11_lineOn) (pc := 45) (-1) dX11_lineOn_45 rfl ?_
    exact vv_iret (mi := mX11_lineOn) (pc := 46) dX11_lineOn_46 rfl (Nat.le_of_ble_eq_true rfl) (Nat.le_of_ble_eq_true rfl) h
  · replace h := h.2 c2
    refine vv_aload_n (mi := mX11_lineOn) (pc := 12) 0 dX11_lineOn_12 rfl rfl ?_
    refine vv_getR (mi := mX11_lineOn) (pc := 13) 11 18 rfl ht1 fl_X11_56 (Nat.le_of_ble_eq_true rfl) dX11_lineOn_13 ?_
    refine vv_iload (mi := mX11_lineOn) (pc := 16) 4 dX11_lineOn_16 rfl ?_
    obtain ⟨aq3, hs4, h⟩ := h
    obtain ⟨ht5, h⟩ := h
    obtain ⟨hi6, h⟩ := h
    refine vv_lald (mi := mX11_lineOn) (pc := 18) hs4 ht5 hi6 dX11_lineOn_18 ?_
    refine vv_lload_n (mi := mX11_lineOn) (pc := 19) 2 dX11_lineOn_19 rfl rfl ?_
    refine vv_lcmp (mi := mX11_lineOn) (pc := 20) dX11_lineOn_20 ?_
    refine vv_if_ne (mi := mX11_lineOn) (pc := 21) 39 dX11_lineOn_21 rfl (fun c7 => ?_) (fun c7 => ?_)
    · replace h := h.1 c7
      refine vv_iinc (mi := mX11_lineOn) (pc := 39) (x5 + 1) 4 [(5, .inl (x5 + 1)), (0, .inr (.inr (some this))), (1, .inl x1), (2, .inr (.inl x2)), (4, .inl x4)] dX11_lineOn_39 rfl rfl (Nat.le_of_ble_eq_true rfl) rfl ?_
      refine vv_goto (mi := mX11_lineOn) (pc := 42) 3 dX11_lineOn_42 rfl ?_
      refine vv_sub (mi := mX11_lineOn) [(0, .inr (.inr (some this))), (1, .inl x1), (2, .inr (.inl x2)), (4, .inl x4), (5, .inl (x5 + 1))] [1, 2, 3, 4, 0] rfl ?_
      exact hb3 _ _ _ _ _ _ h
    · replace h := h.2 c7
      refine vv_aload_n (mi := mX11_lineOn) (pc := 24) 0 dX11_lineOn_24 rfl rfl ?_
      refine vv_iload (mi := mX11_lineOn) (pc := 25) 4 dX11_lineOn_25 rfl ?_
      refine vv_iload (mi := mX11_lineOn) (pc := 27) 3 dX11_lineOn_27 rfl ?_
      refine vv_callV (mi := mX11_lineOn) (pc := 29) (rest := []) (As := [.inl x5, .inl x4]) (ctX11_blockOf (X := X) h) dX11_lineOn_29 rfl ht1 (Nat.le_of_ble_eq_true rfl) rfl mb_X11_blockOf rfl ml_X11_210 im_X11_blockOf se_X11_blockOf ⟨(Nat.le_of_ble_eq_true rfl), (Nat.le_of_ble_eq_true rfl)⟩ ⟨(Nat.le_of_ble_eq_true rfl), (Nat.le_of_ble_eq_true rfl)⟩ (Nat.le_of_ble_eq_true rfl) rfl (kI_ (F := fun st M' => VV X mX11_lineOn rX11_lineOn (pI_ post) 32 [(0, .inr (.inr (some this))), (1, .inl x1), (2, .inr (.inl x2)), (4, .inl x4), (5, .inl x5)] st M' 0 0) (fun r8 M9 h => ?_))
      refine vv_iload_n (mi := mX11_lineOn) (pc := 32) 1 dX11_lineOn_32 rfl rfl ?_
      refine vv_icmp_ne (mi := mX11_lineOn) (pc := 33) 39 dX11_lineOn_33 rfl (fun c10 => ?_) (fun c10 => ?_)
      · replace h := h.1 c10
        refine vv_iinc (mi := mX11_lineOn) (pc := 39) (x5 + 1) 4 [(5, .inl (x5 + 1)), (0, .inr (.inr (some this))), (1, .inl x1), (2, .inr (.inl x2)), (4, .inl x4)] dX11_lineOn_39 rfl rfl (Nat.le_of_ble_eq_true rfl) rfl ?_
        refine vv_goto (mi := mX11_lineOn) (pc := 42) 3 dX11_lineOn_42 rfl ?_
        refine vv_sub (mi := mX11_lineOn) [(0, .inr (.inr (some this))), (1, .inl x1), (2, .inr (.inl x2)), (4, .inl x4), (5, .inl (x5 + 1))] [1, 2, 3, 4, 0] rfl ?_
        exact hb3 _ _ _ _ _ _ h
      · replace h := h.2 c10
        refine vv_iload (mi := mX11_lineOn) (pc := 36) 4 dX11_lineOn_36 rfl ?_
        exact vv_iret (mi := mX11_lineOn) (pc := 38) dX11_lineOn_38 rfl (Nat.le_of_ble_eq_true rfl) (Nat.le_of_ble_eq_true rfl) h
theorem loX11_lineOn_3 {X : Cx_}  {post : Int32 → Mm → Prop}  : ∀ (fu : Nat) {this : Nat} {x1 : Int32} {x2 : Int64} {x4 : Int32} {x5 : Int32} {M : Mm}, DX11_lineOn_3  post fu this x1 x2 x4 x5 M → VV X mX11_lineOn rX11_lineOn (pI_ post) 3 [(0, .inr (.inr (some this))), (1, .inl x1), (2, .inr (.inl x2)), (4, .inl x4), (5, .inl x5)] [] M 0 0
  | 0, _, _, _, _, _, _, h => False.elim h
  | fu + 1, _, _, _, _, _, _, h => bX11_lineOn_3 (fun this x1 x2 x4 x5 M h => loX11_lineOn_3  fu h) h
set_option maxHeartbeats 4000000 in
set_option maxRecDepth 100000 in
theorem ctX11_lineOn {X : Cx_} {this : Nat} {a1 : Int32} {a2 : Int64} {a3 : Int32} {M : Mm} {post : Int32 → Mm → Prop} (h : PX11_lineOn this a1 a2 a3 M post) : CT X mX11_lineOn rX11_lineOn [.inr (.inr (some this)), .inl a1, .inr (.inl a2), .inl a3] M (pI_ post) := by
  unfold PX11_lineOn at h
  refine CT.of (by decide +kernel) (Nat.le_of_ble_eq_true rfl) ?_
  show VV X mX11_lineOn rX11_lineOn (pI_ post) 0 [(0, .inr (.inr (some this))), (1, .inl a1), (2, .inr (.inl a2)), (4, .inl a3)] [] M 0 0
  refine vv_iconst (mi := mX11_lineOn) (pc := 0) 0 dX11_lineOn_0 rfl ?_
  refine vv_istore (mi := mX11_lineOn) (pc := 1) [(5, .inl 0), (0, .inr (.inr (some this))), (1, .inl a1), (2, .inr (.inl a2)), (4, .inl a3)] dX11_lineOn_1 (Nat.le_of_ble_eq_true rfl) rfl ?_
  refine vv_sub (mi := mX11_lineOn) [(0, .inr (.inr (some this))), (1, .inl a1), (2, .inr (.inl a2)), (4, .inl a3), (5, .inl 0)] [1, 2, 3, 4, 0] rfl ?_
  obtain ⟨fu, h⟩ := h
  exact loX11_lineOn_3 (X := X)  fu h
set_option maxHeartbeats 4000000 in
set_option maxRecDepth 100000 in
theorem ctX11_line {X : Cx_} {this : Nat} {a1 : Int32} {a2 : Int32} {M : Mm} {post : Int32 → Mm → Prop} (h : PX11_line this a1 a2 M post) : CT X mX11_line rX11_line [.inr (.inr (some this)), .inl a1, .inl a2] M (pI_ post) := by
  unfold PX11_line at h
  refine CT.of (by decide +kernel) (Nat.le_of_ble_eq_true rfl) ?_
  show VV X mX11_line rX11_line (pI_ post) 0 [(0, .inr (.inr (some this))), (1, .inl a1), (2, .inl a2)] [] M 0 0
  refine vv_aload_n (mi := mX11_line) (pc := 0) 0 dX11_line_0 rfl rfl ?_
  refine vv_iload_n (mi := mX11_line) (pc := 1) 1 dX11_line_1 rfl rfl ?_
  obtain ⟨ht1, h⟩ := h
  refine vv_callV (mi := mX11_line) (pc := 2) (rest := []) (As := [.inl a1]) (ctX11_isEntry (X := X) h) dX11_line_2 rfl ht1 (Nat.le_of_ble_eq_true rfl) rfl mb_X11_isEntry rfl ml_X11_166 im_X11_isEntry se_X11_isEntry ⟨(Nat.le_of_ble_eq_true rfl), (Nat.le_of_ble_eq_true rfl)⟩ ⟨(Nat.le_of_ble_eq_true rfl), (Nat.le_of_ble_eq_true rfl)⟩ (Nat.le_of_ble_eq_true rfl) rfl (kI_ (F := fun st M' => VV X mX11_line rX11_line (pI_ post) 5 [(0, .inr (.inr (some this))), (1, .inl a1), (2, .inl a2)] st M' 0 0) (fun r2 M3 h => ?_))
  refine vv_if_eq (mi := mX11_line) (pc := 5) 29 dX11_line_5 rfl (fun c4 => ?_) (fun c4 => ?_)
  · replace h := h.1 c4
    refine vv_bipush (mi := mX11_line) (pc := 29) (-2) dX11_line_29 rfl ?_
    exact vv_iret (mi := mX11_line) (pc := 31) dX11_line_31 rfl (Nat.le_of_ble_eq_true rfl) (Nat.le_of_ble_eq_true rfl) h
  · replace h := h.2 c4
    refine vv_aload_n (mi := mX11_line) (pc := 8) 0 dX11_line_8 rfl rfl ?_
    obtain ⟨ht5, h⟩ := h
    refine vv_getR (mi := mX11_line) (pc := 9) 11 2 rfl ht5 fl_X11_7 (Nat.le_of_ble_eq_true rfl) dX11_line_9 ?_
    refine vv_iload_n (mi := mX11_line) (pc := 12) 1 dX11_line_12 rfl rfl ?_
    obtain ⟨aq6, hs7, h⟩ := h
    obtain ⟨ht8, h⟩ := h
    obtain ⟨hi9, h⟩ := h
    refine vv_iald (mi := mX11_line) (pc := 13) hs7 ht8 hi9 dX11_line_13 ?_
    refine vv_if_ne (mi := mX11_line) (pc := 14) 29 dX11_line_14 rfl (fun c10 => ?_) (fun c10 => ?_)
    · replace h := h.1 c10
      refine vv_bipush (mi := mX11_line) (pc := 29) (-2) dX11_line_29 rfl ?_
      exact vv_iret (mi := mX11_line) (pc := 31) dX11_line_31 rfl (Nat.le_of_ble_eq_true rfl) (Nat.le_of_ble_eq_true rfl) h
    · replace h := h.2 c10
      refine vv_aload_n (mi := mX11_line) (pc := 17) 0 dX11_line_17 rfl rfl ?_
      refine vv_iload_n (mi := mX11_line) (pc := 18) 1 dX11_line_18 rfl rfl ?_
      refine vv_aload_n (mi := mX11_line) (pc := 19) 0 dX11_line_19 rfl rfl ?_
      refine vv_getI (mi := mX11_line) (pc := 20) 11 0 rfl ht5 fl_X11_114 (Nat.le_of_ble_eq_true rfl) dX11_line_20 ?_
      refine vv_callV (mi := mX11_line) (pc := 23) (rest := []) (As := [.inl a1, .inl (ddI M3 this 0)]) (ctX11_isForce (X := X) h) dX11_line_23 rfl ht5 (Nat.le_of_ble_eq_true rfl) rfl mb_X11_isForce rfl ml_X11_197 im_X11_isForce se_X11_isForce ⟨(Nat.le_of_ble_eq_true rfl), (Nat.le_of_ble_eq_true rfl)⟩ ⟨(Nat.le_of_ble_eq_true rfl), (Nat.le_of_ble_eq_true rfl)⟩ (Nat.le_of_ble_eq_true rfl) rfl (kI_ (F := fun st M' => VV X mX11_line rX11_line (pI_ post) 26 [(0, .inr (.inr (some this))), (1, .inl a1), (2, .inl a2)] st M' 0 0) (fun r11 M12 h => ?_))
      refine vv_if_ne (mi := mX11_line) (pc := 26) 32 dX11_line_26 rfl (fun c13 => ?_) (fun c13 => ?_)
      · replace h := h.1 c13
        refine vv_iload_n (mi := mX11_line) (pc := 32) 2 dX11_line_32 rfl rfl ?_
        refine vv_i2l (mi := mX11_line) (pc := 33) dX11_line_33 ?_
        refine vv_callS (mi := mX11_line) (pc := 34) (rest := []) (As := [.inr (.inl (Int32.toInt64 a2))]) (ctX11_figuresOf (X := X) h) dX11_line_34 mb_X11_figuresOf rfl ml_X11_122 sc_X11_figuresOf ⟨(Nat.le_of_ble_eq_true rfl), (Nat.le_of_ble_eq_true rfl)⟩ ⟨(Nat.le_of_ble_eq_true rfl), (Nat.le_of_ble_eq_true rfl)⟩ (Nat.le_of_ble_eq_true rfl) rfl (kI_ (F := fun st M' => VV X mX11_line rX11_line (pI_ post) 37 [(0, .inr (.inr (some this))), (1, .inl a1), (2, .inl a2)] st M' 0 0) (fun r14 M15 h => ?_))
        refine vv_aload_n (mi := mX11_line) (pc := 37) 0 dX11_line_37 rfl rfl ?_
        obtain ⟨ht16, h⟩ := h
        refine vv_getR (mi := mX11_line) (pc := 38) 11 6 rfl ht16 fl_X11_22 (Nat.le_of_ble_eq_true rfl) dX11_line_38 ?_
        refine vv_iload_n (mi := mX11_line) (pc := 41) 1 dX11_line_41 rfl rfl ?_
        obtain ⟨aq17, hs18, h⟩ := h
        obtain ⟨ht19, h⟩ := h
        obtain ⟨hi20, h⟩ := h
        refine vv_iald (mi := mX11_line) (pc := 42) hs18 ht19 hi20 dX11_line_42 ?_
        refine vv_aload_n (mi := mX11_line) (pc := 43) 0 dX11_line_43 rfl rfl ?_
        refine vv_getR (mi := mX11_line) (pc := 44) 11 4 rfl ht16 fl_X11_16 (Nat.le_of_ble_eq_true rfl) dX11_line_44 ?_
        refine vv_iload_n (mi := mX11_line) (pc := 47) 1 dX11_line_47 rfl rfl ?_
        obtain ⟨aq21, hs22, h⟩ := h
        obtain ⟨ht23, h⟩ := h
        obtain ⟨hi24, h⟩ := h
        refine vv_iald (mi := mX11_line) (pc := 48) hs22 ht23 hi24 dX11_line_48 ?_
        refine vv_callS (mi := mX11_line) (pc := 49) (rest := [.inl (ddI M15 aq17 (Int32.toNatClampNeg a1)), .inl r14]) (As := [.inl (ddI M15 aq21 (Int32.toNatClampNeg a1))]) (ctX11_lengthOf (X := X) h) dX11_line_49 mb_X11_lengthOf rfl ml_X11_139 sc_X11_lengthOf ⟨(Nat.le_of_ble_eq_true rfl), (Nat.le_of_ble_eq_true rfl)⟩ ⟨(Nat.le_of_ble_eq_true rfl), (Nat.le_of_ble_eq_true rfl)⟩ (Nat.le_of_ble_eq_true rfl) rfl (kI_ (F := fun st M' => VV X mX11_line rX11_line (pI_ post) 52 [(0, .inr (.inr (some this))), (1, .inl a1), (2, .inl a2)] st M' 0 0) (fun r25 M26 h => ?_))
        refine vv_isub (mi := mX11_line) (pc := 52) dX11_line_52 ?_
        refine vv_icmp_ne (mi := mX11_line) (pc := 53) 74 dX11_line_53 rfl (fun c27 => ?_) (fun c27 => ?_)
        · replace h := h.1 c27
          refine vv_bipush (mi := mX11_line) (pc := 74) (-2) dX11_line_74 rfl ?_
          exact vv_iret (mi := mX11_line) (pc := 76) dX11_line_76 rfl (Nat.le_of_ble_eq_true rfl) (Nat.le_of_ble_eq_true rfl) h
        · replace h := h.2 c27
          refine vv_aload_n (mi := mX11_line) (pc := 56) 0 dX11_line_56 rfl rfl ?_
          obtain ⟨ht28, h⟩ := h
          refine vv_getR (mi := mX11_line) (pc := 57) 11 5 rfl ht28 fl_X11_19 (Nat.le_of_ble_eq_true rfl) dX11_line_57 ?_
          refine vv_iload_n (mi := mX11_line) (pc := 60) 1 dX11_line_60 rfl rfl ?_
          obtain ⟨aq29, hs30, h⟩ := h
          obtain ⟨ht31, h⟩ := h
          obtain ⟨hi32, h⟩ := h
          refine vv_iald (mi := mX11_line) (pc := 61) hs30 ht31 hi32 dX11_line_61 ?_
          refine vv_iload_n (mi := mX11_line) (pc := 62) 2 dX11_line_62 rfl rfl ?_
          refine vv_i2l (mi := mX11_line) (pc := 63) dX11_line_63 ?_
          refine vv_iconst (mi := mX11_line) (pc := 64) 0 dX11_line_64 rfl ?_
          refine vv_callS (mi := mX11_line) (pc := 65) (rest := [.inl (ddI M26 aq29 (Int32.toNatClampNeg a1))]) (As := [.inr (.inl (Int32.toInt64 a2)), .inl 0]) (ctX11_figureAt (X := X) h) dX11_line_65 mb_X11_figureAt rfl ml_X11_183 sc_X11_figureAt ⟨(Nat.le_of_ble_eq_true rfl), (Nat.le_of_ble_eq_true rfl)⟩ ⟨(Nat.le_of_ble_eq_true rfl), (Nat.le_of_ble_eq_true rfl)⟩ (Nat.le_of_ble_eq_true rfl) rfl (kI_ (F := fun st M' => VV X mX11_line rX11_line (pI_ post) 68 [(0, .inr (.inr (some this))), (1, .inl a1), (2, .inl a2)] st M' 0 0) (fun r33 M34 h => ?_))
          refine vv_ishr (mi := mX11_line) (pc := 68) dX11_line_68 ?_
          refine vv_iconst (mi := mX11_line) (pc := 69) 1 dX11_line_69 rfl ?_
          refine vv_iand (mi := mX11_line) (pc := 70) dX11_line_70 ?_
          refine vv_if_ne (mi := mX11_line) (pc := 71) 77 dX11_line_71 rfl (fun c35 => ?_) (fun c35 => ?_)
          · replace h := h.1 c35
            refine vv_aload_n (mi := mX11_line) (pc := 77) 0 dX11_line_77 rfl rfl ?_
            refine vv_iload_n (mi := mX11_line) (pc := 78) 1 dX11_line_78 rfl rfl ?_
            refine vv_iload_n (mi := mX11_line) (pc := 79) 2 dX11_line_79 rfl rfl ?_
            refine vv_i2l (mi := mX11_line) (pc := 80) dX11_line_80 ?_
            refine vv_aload_n (mi := mX11_line) (pc := 81) 0 dX11_line_81 rfl rfl ?_
            obtain ⟨ht36, h⟩ := h
            refine vv_getI (mi := mX11_line) (pc := 82) 11 0 rfl ht36 fl_X11_114 (Nat.le_of_ble_eq_true rfl) dX11_line_82 ?_
            refine vv_callV (mi := mX11_line) (pc := 85) (rest := []) (As := [.inl a1, .inr (.inl (Int32.toInt64 a2)), .inl (ddI M34 this 0)]) (ctX11_lineOn (X := X) h) dX11_line_85 rfl ht36 (Nat.le_of_ble_eq_true rfl) rfl mb_X11_lineOn rfl ml_X11_213 im_X11_lineOn se_X11_lineOn ⟨(Nat.le_of_ble_eq_true rfl), (Nat.le_of_ble_eq_true rfl)⟩ ⟨(Nat.le_of_ble_eq_true rfl), (Nat.le_of_ble_eq_true rfl)⟩ (Nat.le_of_ble_eq_true rfl) rfl (kI_ (F := fun st M' => VV X mX11_line rX11_line (pI_ post) 88 [(0, .inr (.inr (some this))), (1, .inl a1), (2, .inl a2)] st M' 0 0) (fun r37 M38 h => ?_))
            refine vv_iconst (mi := mX11_line) (pc := 88) (-1) dX11_line_88 rfl ?_
            refine vv_icmp_eq (mi := mX11_line) (pc := 89) 94 dX11_line_89 rfl (fun c39 => ?_) (fun c39 => ?_)
            · replace h := h.1 c39
              refine vv_aload_n (mi := mX11_line) (pc := 94) 0 dX11_line_94 rfl rfl ?_
              obtain ⟨ht40, h⟩ := h
              refine vv_getI (mi := mX11_line) (pc := 95) 11 16 rfl ht40 fl_X11_207 (Nat.le_of_ble_eq_true rfl) dX11_line_95 ?_
              refine vv_sipush (mi := mX11_line) (pc := 98) 300 dX11_line_98 rfl ?_
              refine vv_icmp_ne (mi := mX11_line) (pc := 101) 107 dX11_line_101 rfl (fun c41 => ?_) (fun c41 => ?_)
              · replace h := h.1 c41
                refine vv_aload_n (mi := mX11_line) (pc := 107) 0 dX11_line_107 rfl rfl ?_
                refine vv_getR (mi := mX11_line) (pc := 108) 11 17 rfl ht40 fl_X11_53 (Nat.le_of_ble_eq_true rfl) dX11_line_108 ?_
                refine vv_aload_n (mi := mX11_line) (pc := 111) 0 dX11_line_111 rfl rfl ?_
                refine vv_getI (mi := mX11_line) (pc := 112) 11 16 rfl ht40 fl_X11_207 (Nat.le_of_ble_eq_true rfl) dX11_line_112 ?_
                refine vv_iload_n (mi := mX11_line) (pc := 115) 1 dX11_line_115 rfl rfl ?_
                obtain ⟨aq42, hs43, h⟩ := h
                obtain ⟨ht44, h⟩ := h
                obtain ⟨hi45, h⟩ := h
                obtain ⟨M46, eM46⟩ : ∃ z : Mm, z = suI M38 aq42 (Int32.toNatClampNeg (ddI M38 this 16)) a1 := ⟨_, rfl⟩
                replace h := h _ eM46
                refine vv_iast (mi := mX11_line) (pc := 116) hs43 ht44 hi45 dX11_line_116 eM46 ?_
                refine vv_aload_n (mi := mX11_line) (pc := 117) 0 dX11_line_117 rfl rfl ?_
                refine vv_getR (mi := mX11_line) (pc := 118) 11 18 rfl (tgI_ eM46 ht40) fl_X11_56 (Nat.le_of_ble_eq_true rfl) dX11_line_118 ?_
                refine vv_aload_n (mi := mX11_line) (pc := 121) 0 dX11_line_121 rfl rfl ?_
                refine vv_getI (mi := mX11_line) (pc := 122) 11 16 rfl (tgI_ eM46 ht40) fl_X11_207 (Nat.le_of_ble_eq_true rfl) dX11_line_122 ?_
                refine vv_iload_n (mi := mX11_line) (pc := 125) 2 dX11_line_125 rfl rfl ?_
                refine vv_i2l (mi := mX11_line) (pc := 126) dX11_line_126 ?_
                obtain ⟨aq47, hs48, h⟩ := h
                obtain ⟨ht49, h⟩ := h
                obtain ⟨hi50, h⟩ := h
                obtain ⟨M51, eM51⟩ : ∃ z : Mm, z = suL M46 aq47 (Int32.toNatClampNeg (ddI M46 this 16)) (Int32.toInt64 a2) := ⟨_, rfl⟩
                replace h := h _ eM51
                refine vv_last (mi := mX11_line) (pc := 127) hs48 ht49 hi50 dX11_line_127 eM51 ?_
                refine vv_aload_n (mi := mX11_line) (pc := 128) 0 dX11_line_128 rfl rfl ?_
                refine vv_getR (mi := mX11_line) (pc := 129) 11 19 rfl (tgL_ eM51 (tgI_ eM46 ht40)) fl_X11_59 (Nat.le_of_ble_eq_true rfl) dX11_line_129 ?_
                refine vv_aload_n (mi := mX11_line) (pc := 132) 0 dX11_line_132 rfl rfl ?_
                refine vv_getI (mi := mX11_line) (pc := 133) 11 16 rfl (tgL_ eM51 (tgI_ eM46 ht40)) fl_X11_207 (Nat.le_of_ble_eq_true rfl) dX11_line_133 ?_
                refine vv_aload_n (mi := mX11_line) (pc := 136) 0 dX11_line_136 rfl rfl ?_
                refine vv_getI (mi := mX11_line) (pc := 137) 11 0 rfl (tgL_ eM51 (tgI_ eM46 ht40)) fl_X11_114 (Nat.le_of_ble_eq_true rfl) dX11_line_137 ?_
                obtain ⟨aq52, hs53, h⟩ := h
                obtain ⟨ht54, h⟩ := h
                obtain ⟨hi55, h⟩ := h
                obtain ⟨M56, eM56⟩ : ∃ z : Mm, z = suI M51 aq52 (Int32.toNatClampNeg (ddI M51 this 16)) (ddI M51 this 0) := ⟨_, rfl⟩
                replace h := h _ eM56
                refine vv_iast (mi := mX11_line) (pc := 140) hs53 ht54 hi55 dX11_line_140 eM56 ?_
                refine vv_aload_n (mi := mX11_line) (pc := 141) 0 dX11_line_141 rfl rfl ?_
                refine vv_getR (mi := mX11_line) (pc := 142) 11 20 rfl (tgI_ eM56 (tgL_ eM51 (tgI_ eM46 ht40))) fl_X11_62 (Nat.le_of_ble_eq_true rfl) dX11_line_142 ?_
                refine vv_aload_n (mi := mX11_line) (pc := 145) 0 dX11_line_145 rfl rfl ?_
                refine vv_getI (mi := mX11_line) (pc := 146) 11 16 rfl (tgI_ eM56 (tgL_ eM51 (tgI_ eM46 ht40))) fl_X11_207 (Nat.le_of_ble_eq_true rfl) dX11_line_146 ?_
                refine vv_iconst (mi := mX11_line) (pc := 149) (-1) dX11_line_149 rfl ?_
                obtain ⟨aq57, hs58, h⟩ := h
                obtain ⟨ht59, h⟩ := h
                obtain ⟨hi60, h⟩ := h
                obtain ⟨M61, eM61⟩ : ∃ z : Mm, z = suI M56 aq57 (Int32.toNatClampNeg (ddI M56 this 16)) (-1) := ⟨_, rfl⟩
                replace h := h _ eM61
                refine vv_iast (mi := mX11_line) (pc := 150) hs58 ht59 hi60 dX11_line_150 eM61 ?_
                refine vv_aload_n (mi := mX11_line) (pc := 151) 0 dX11_line_151 rfl rfl ?_
                refine vv_dup (mi := mX11_line) (pc := 152) dX11_line_152 rfl ?_
                refine vv_getI (mi := mX11_line) (pc := 153) 11 16 rfl (tgI_ eM61 (tgI_ eM56 (tgL_ eM51 (tgI_ eM46 ht40)))) fl_X11_207 (Nat.le_of_ble_eq_true rfl) dX11_line_153 ?_
                refine vv_iconst (mi := mX11_line) (pc := 156) 1 dX11_line_156 rfl ?_
                refine vv_iadd (mi := mX11_line) (pc := 157) dX11_line_157 ?_
                obtain ⟨M62, eM62⟩ : ∃ z : Mm, z = suI M61 this 16 ((ddI M61 this 16) + 1) := ⟨_, rfl⟩
                replace h := h _ eM62
                refine vv_putI (mi := mX11_line) (pc := 158) 11 16 rfl (tgI_ eM61 (tgI_ eM56 (tgL_ eM51 (tgI_ eM46 ht40)))) fq_X11_207 (fun q => by cases q) rfl (Nat.le_of_ble_eq_true rfl) dX11_line_158 eM62 ?_
                refine vv_aload_n (mi := mX11_line) (pc := 161) 0 dX11_line_161 rfl rfl ?_
                refine vv_getI (mi := mX11_line) (pc := 162) 11 16 rfl (tgI_ eM62 (tgI_ eM61 (tgI_ eM56 (tgL_ eM51 (tgI_ eM46 ht40))))) fl_X11_207 (Nat.le_of_ble_eq_true rfl) dX11_line_162 ?_
                refine vv_iconst (mi := mX11_line) (pc := 165) 1 dX11_line_165 rfl ?_
                refine vv_isub (mi := mX11_line) (pc := 166) dX11_line_166 ?_
                exact vv_iret (mi := mX11_line) (pc := 167) dX11_line_167 rfl (Nat.le_of_ble_eq_true rfl) (Nat.le_of_ble_eq_true rfl) h
              · replace h := h.2 c41
                refine vv_bipush (mi := mX11_line) (pc := 104) (-3) dX11_line_104 rfl ?_
                exact vv_iret (mi := mX11_line) (pc := 106) dX11_line_106 rfl (Nat.le_of_ble_eq_true rfl) (Nat.le_of_ble_eq_true rfl) h
            · replace h := h.2 c39
              refine vv_iconst (mi := mX11_line) (pc := 92) (-1) dX11_line_92 rfl ?_
              exact vv_iret (mi := mX11_line) (pc := 93) dX11_line_93 rfl (Nat.le_of_ble_eq_true rfl) (Nat.le_of_ble_eq_true rfl) h
          · replace h := h.2 c35
            refine vv_bipush (mi := mX11_line) (pc := 74) (-2) dX11_line_74 rfl ?_
            exact vv_iret (mi := mX11_line) (pc := 76) dX11_line_76 rfl (Nat.le_of_ble_eq_true rfl) (Nat.le_of_ble_eq_true rfl) h
      · replace h := h.2 c13
        refine vv_bipush (mi := mX11_line) (pc := 29) (-2) dX11_line_29 rfl ?_
        exact vv_iret (mi := mX11_line) (pc := 31) dX11_line_31 rfl (Nat.le_of_ble_eq_true rfl) (Nat.le_of_ble_eq_true rfl) h
set_option maxHeartbeats 4000000 in
set_option maxRecDepth 100000 in
theorem ctX11_isLine {X : Cx_} {this : Nat} {a1 : Int32} {M : Mm} {post : Int32 → Mm → Prop} (h : PX11_isLine this a1 M post) : CT X mX11_isLine rX11_isLine [.inr (.inr (some this)), .inl a1] M (pI_ post) := by
  unfold PX11_isLine at h
  refine CT.of (by decide +kernel) (Nat.le_of_ble_eq_true rfl) ?_
  show VV X mX11_isLine rX11_isLine (pI_ post) 0 [(0, .inr (.inr (some this))), (1, .inl a1)] [] M 0 0
  refine vv_iload_n (mi := mX11_isLine) (pc := 0) 1 dX11_isLine_0 rfl rfl ?_
  refine vv_i2l (mi := mX11_isLine) (pc := 1) dX11_isLine_1 ?_
  refine vv_lconst (mi := mX11_isLine) (pc := 2) 0 dX11_isLine_2 rfl ?_
  refine vv_aload_n (mi := mX11_isLine) (pc := 3) 0 dX11_isLine_3 rfl rfl ?_
  obtain ⟨ht1, h⟩ := h
  refine vv_getI (mi := mX11_isLine) (pc := 4) 11 16 rfl ht1 fl_X11_207 (Nat.le_of_ble_eq_true rfl) dX11_isLine_4 ?_
  refine vv_iconst (mi := mX11_isLine) (pc := 7) 1 dX11_isLine_7 rfl ?_
  refine vv_isub (mi := mX11_isLine) (pc := 8) dX11_isLine_8 ?_
  refine vv_i2l (mi := mX11_isLine) (pc := 9) dX11_isLine_9 ?_
  refine vv_callS (mi := mX11_isLine) (pc := 10) (rest := []) (As := [.inr (.inl (Int32.toInt64 a1)), .inr (.inl 0), .inr (.inl (Int32.toInt64 ((ddI M this 16) - 1)))]) (ctX11_in (X := X) h) dX11_isLine_10 mb_X11_in rfl ml_X11_110 sc_X11_in ⟨(Nat.le_of_ble_eq_true rfl), (Nat.le_of_ble_eq_true rfl)⟩ ⟨(Nat.le_of_ble_eq_true rfl), (Nat.le_of_ble_eq_true rfl)⟩ (Nat.le_of_ble_eq_true rfl) rfl (kI_ (F := fun st M' => VV X mX11_isLine rX11_isLine (pI_ post) 13 [(0, .inr (.inr (some this))), (1, .inl a1)] st M' 0 0) (fun r2 M3 h => ?_))
  obtain ⟨hz4, h⟩ := h
  exact vv_zret (mi := mX11_isLine) (pc := 13) dX11_isLine_13 rfl hz4 (Nat.le_of_ble_eq_true rfl) (Nat.le_of_ble_eq_true rfl) h
set_option maxHeartbeats 4000000 in
set_option maxRecDepth 100000 in
theorem ctX11_drop {X : Cx_} {this : Nat} {a1 : Int32} {M : Mm} {post : Int32 → Mm → Prop} (h : PX11_drop this a1 M post) : CT X mX11_drop rX11_drop [.inr (.inr (some this)), .inl a1] M (pI_ post) := by
  unfold PX11_drop at h
  refine CT.of (by decide +kernel) (Nat.le_of_ble_eq_true rfl) ?_
  show VV X mX11_drop rX11_drop (pI_ post) 0 [(0, .inr (.inr (some this))), (1, .inl a1)] [] M 0 0
  refine vv_aload_n (mi := mX11_drop) (pc := 0) 0 dX11_drop_0 rfl rfl ?_
  refine vv_iload_n (mi := mX11_drop) (pc := 1) 1 dX11_drop_1 rfl rfl ?_
  obtain ⟨ht1, h⟩ := h
  refine vv_callV (mi := mX11_drop) (pc := 2) (rest := []) (As := [.inl a1]) (ctX11_isLine (X := X) h) dX11_drop_2 rfl ht1 (Nat.le_of_ble_eq_true rfl) rfl mb_X11_isLine rfl ml_X11_216 im_X11_isLine se_X11_isLine ⟨(Nat.le_of_ble_eq_true rfl), (Nat.le_of_ble_eq_true rfl)⟩ ⟨(Nat.le_of_ble_eq_true rfl), (Nat.le_of_ble_eq_true rfl)⟩ (Nat.le_of_ble_eq_true rfl) rfl (kI_ (F := fun st M' => VV X mX11_drop rX11_drop (pI_ post) 5 [(0, .inr (.inr (some this))), (1, .inl a1)] st M' 0 0) (fun r2 M3 h => ?_))
  refine vv_if_eq (mi := mX11_drop) (pc := 5) 18 dX11_drop_5 rfl (fun c4 => ?_) (fun c4 => ?_)
  · replace h := h.1 c4
    refine vv_bipush (mi := mX11_drop) (pc := 18) (-2) dX11_drop_18 rfl ?_
    exact vv_iret (mi := mX11_drop) (pc := 20) dX11_drop_20 rfl (Nat.le_of_ble_eq_true rfl) (Nat.le_of_ble_eq_true rfl) h
  · replace h := h.2 c4
    refine vv_aload_n (mi := mX11_drop) (pc := 8) 0 dX11_drop_8 rfl rfl ?_
    obtain ⟨ht5, h⟩ := h
    refine vv_getR (mi := mX11_drop) (pc := 9) 11 20 rfl ht5 fl_X11_62 (Nat.le_of_ble_eq_true rfl) dX11_drop_9 ?_
    refine vv_iload_n (mi := mX11_drop) (pc := 12) 1 dX11_drop_12 rfl rfl ?_
    obtain ⟨aq6, hs7, h⟩ := h
    obtain ⟨ht8, h⟩ := h
    obtain ⟨hi9, h⟩ := h
    refine vv_iald (mi := mX11_drop) (pc := 13) hs7 ht8 hi9 dX11_drop_13 ?_
    refine vv_iconst (mi := mX11_drop) (pc := 14) (-1) dX11_drop_14 rfl ?_
    refine vv_icmp_eq (mi := mX11_drop) (pc := 15) 21 dX11_drop_15 rfl (fun c10 => ?_) (fun c10 => ?_)
    · replace h := h.1 c10
      refine vv_aload_n (mi := mX11_drop) (pc := 21) 0 dX11_drop_21 rfl rfl ?_
      refine vv_getR (mi := mX11_drop) (pc := 22) 11 20 rfl ht5 fl_X11_62 (Nat.le_of_ble_eq_true rfl) dX11_drop_22 ?_
      refine vv_iload_n (mi := mX11_drop) (pc := 25) 1 dX11_drop_25 rfl rfl ?_
      refine vv_aload_n (mi := mX11_drop) (pc := 26) 0 dX11_drop_26 rfl rfl ?_
      refine vv_getI (mi := mX11_drop) (pc := 27) 11 0 rfl ht5 fl_X11_114 (Nat.le_of_ble_eq_true rfl) dX11_drop_27 ?_
      obtain ⟨hi11, h⟩ := h
      obtain ⟨M12, eM12⟩ : ∃ z : Mm, z = suI M3 aq6 (Int32.toNatClampNeg a1) (ddI M3 this 0) := ⟨_, rfl⟩
      replace h := h _ eM12
      refine vv_iast (mi := mX11_drop) (pc := 30) hs7 ht8 hi11 dX11_drop_30 eM12 ?_
      refine vv_iconst (mi := mX11_drop) (pc := 31) 1 dX11_drop_31 rfl ?_
      exact vv_iret (mi := mX11_drop) (pc := 32) dX11_drop_32 rfl (Nat.le_of_ble_eq_true rfl) (Nat.le_of_ble_eq_true rfl) h
    · replace h := h.2 c10
      refine vv_bipush (mi := mX11_drop) (pc := 18) (-2) dX11_drop_18 rfl ?_
      exact vv_iret (mi := mX11_drop) (pc := 20) dX11_drop_20 rfl (Nat.le_of_ble_eq_true rfl) (Nat.le_of_ble_eq_true rfl) h
set_option maxHeartbeats 4000000 in
set_option maxRecDepth 100000 in
theorem bX11_carrierOf_5 {X : Cx_} {kb5 : Nat → Int32 → Int32 → Int32 → Int32 → Mm → Prop} {post : Int32 → Mm → Prop} (hb5 : ∀ (this : Nat) (x1 : Int32) (x2 : Int32) (x3 : Int32) (x4 : Int32) (M : Mm), kb5 this x1 x2 x3 x4 M → VV X mX11_carrierOf rX11_carrierOf (pI_ post) 5 [(0, .inr (.inr (some this))), (1, .inl x1), (2, .inl x2), (3, .inl x3), (4, .inl x4)] [] M 0 0) {this : Nat} {x1 : Int32} {x2 : Int32} {x3 : Int32} {x4 : Int32} {M : Mm} (h : BX11_carrierOf_5 kb5 post this x1 x2 x3 x4 M) : VV X mX11_carrierOf rX11_carrierOf (pI_ post) 5 [(0, .inr (.inr (some this))), (1, .inl x1), (2, .inl x2), (3, .inl x3), (4, .inl x4)] [] M 0 0 := by
  unfold BX11_carrierOf_5 at h
  refine vv_iload (mi := mX11_carrierOf) (pc := 5) 4 dX11_carrierOf_5 rfl ?_
  refine vv_aload_n (mi := mX11_carrierOf) (pc := 7) 0 dX11_carrierOf_7 rfl rfl ?_
  obtain ⟨ht1, h⟩ := h
  refine vv_getI (mi := mX11_carrierOf) (pc := 8) 11 21 rfl ht1 fl_X11_219 (Nat.le_of_ble_eq_true rfl) dX11_carrierOf_8 ?_
  refine vv_icmp_ge (mi := mX11_carrierOf) (pc := 11) 50 dX11_carrierOf_11 rfl (fun c2 => ?_) (fun c2 => ?_)
  · replace h := h.1 c2
    refine vv_iload_n (mi := mX11_carrierOf) (pc := 50) 3 dX11_carrierOf_50 rfl rfl ?_
    exact vv_iret (mi := mX11_carrierOf) (pc := 51) dX11_carrierOf_51 rfl (Nat.le_of_ble_eq_true rfl) (Nat.le_of_ble_eq_true rfl) h
  · replace h := h.2 c2
    refine vv_aload_n (mi := mX11_carrierOf) (pc := 14) 0 dX11_carrierOf_14 rfl rfl ?_
    refine vv_getR (mi := mX11_carrierOf) (pc := 15) 11 22 rfl ht1 fl_X11_65 (Nat.le_of_ble_eq_true rfl) dX11_carrierOf_15 ?_
    refine vv_iload (mi := mX11_carrierOf) (pc := 18) 4 dX11_carrierOf_18 rfl ?_
    obtain ⟨aq3, hs4, h⟩ := h
    obtain ⟨ht5, h⟩ := h
    obtain ⟨hi6, h⟩ := h
    refine vv_iald (mi := mX11_carrierOf) (pc := 20) hs4 ht5 hi6 dX11_carrierOf_20 ?_
    refine vv_iload_n (mi := mX11_carrierOf) (pc := 21) 1 dX11_carrierOf_21 rfl rfl ?_
    refine vv_icmp_ne (mi := mX11_carrierOf) (pc := 22) 44 dX11_carrierOf_22 rfl (fun c7 => ?_) (fun c7 => ?_)
    · replace h := h.1 c7
      refine vv_iinc (mi := mX11_carrierOf) (pc := 44) (x4 + 1) 4 [(4, .inl (x4 + 1)), (0, .inr (.inr (some this))), (1, .inl x1), (2, .inl x2), (3, .inl x3)] dX11_carrierOf_44 rfl rfl (Nat.le_of_ble_eq_true rfl) rfl ?_
      refine vv_goto (mi := mX11_carrierOf) (pc := 47) 5 dX11_carrierOf_47 rfl ?_
      refine vv_sub (mi := mX11_carrierOf) [(0, .inr (.inr (some this))), (1, .inl x1), (2, .inl x2), (3, .inl x3), (4, .inl (x4 + 1))] [1, 2, 3, 4, 0] rfl ?_
      exact hb5 _ _ _ _ _ _ h
    · replace h := h.2 c7
      refine vv_aload_n (mi := mX11_carrierOf) (pc := 25) 0 dX11_carrierOf_25 rfl rfl ?_
      refine vv_getR (mi := mX11_carrierOf) (pc := 26) 11 23 rfl ht1 fl_X11_68 (Nat.le_of_ble_eq_true rfl) dX11_carrierOf_26 ?_
      refine vv_iload (mi := mX11_carrierOf) (pc := 29) 4 dX11_carrierOf_29 rfl ?_
      obtain ⟨aq8, hs9, h⟩ := h
      obtain ⟨ht10, h⟩ := h
      obtain ⟨hi11, h⟩ := h
      refine vv_iald (mi := mX11_carrierOf) (pc := 31) hs9 ht10 hi11 dX11_carrierOf_31 ?_
      refine vv_iload_n (mi := mX11_carrierOf) (pc := 32) 2 dX11_carrierOf_32 rfl rfl ?_
      refine vv_icmp_gt (mi := mX11_carrierOf) (pc := 33) 44 dX11_carrierOf_33 rfl (fun c12 => ?_) (fun c12 => ?_)
      · replace h := h.1 c12
        refine vv_iinc (mi := mX11_carrierOf) (pc := 44) (x4 + 1) 4 [(4, .inl (x4 + 1)), (0, .inr (.inr (some this))), (1, .inl x1), (2, .inl x2), (3, .inl x3)] dX11_carrierOf_44 rfl rfl (Nat.le_of_ble_eq_true rfl) rfl ?_
        refine vv_goto (mi := mX11_carrierOf) (pc := 47) 5 dX11_carrierOf_47 rfl ?_
        refine vv_sub (mi := mX11_carrierOf) [(0, .inr (.inr (some this))), (1, .inl x1), (2, .inl x2), (3, .inl x3), (4, .inl (x4 + 1))] [1, 2, 3, 4, 0] rfl ?_
        exact hb5 _ _ _ _ _ _ h
      · replace h := h.2 c12
        refine vv_aload_n (mi := mX11_carrierOf) (pc := 36) 0 dX11_carrierOf_36 rfl rfl ?_
        refine vv_getR (mi := mX11_carrierOf) (pc := 37) 11 24 rfl ht1 fl_X11_71 (Nat.le_of_ble_eq_true rfl) dX11_carrierOf_37 ?_
        refine vv_iload (mi := mX11_carrierOf) (pc := 40) 4 dX11_carrierOf_40 rfl ?_
        obtain ⟨aq13, hs14, h⟩ := h
        obtain ⟨ht15, h⟩ := h
        obtain ⟨hi16, h⟩ := h
        refine vv_iald (mi := mX11_carrierOf) (pc := 42) hs14 ht15 hi16 dX11_carrierOf_42 ?_
        obtain ⟨v17, ev17⟩ : ∃ z : Int32, z = (ddI M aq13 (Int32.toNatClampNeg x4)) := ⟨_, rfl⟩
        refine vv_namI ev17 ?_
        replace h := h _ ev17
        refine vv_istore_n (mi := mX11_carrierOf) (pc := 43) [(3, .inl v17), (0, .inr (.inr (some this))), (1, .inl x1), (2, .inl x2), (4, .inl x4)] dX11_carrierOf_43 rfl (Nat.le_of_ble_eq_true rfl) rfl ?_
        refine vv_iinc (mi := mX11_carrierOf) (pc := 44) (x4 + 1) 4 [(4, .inl (x4 + 1)), (3, .inl v17), (0, .inr (.inr (some this))), (1, .inl x1), (2, .inl x2)] dX11_carrierOf_44 rfl rfl (Nat.le_of_ble_eq_true rfl) rfl ?_
        refine vv_goto (mi := mX11_carrierOf) (pc := 47) 5 dX11_carrierOf_47 rfl ?_
        refine vv_sub (mi := mX11_carrierOf) [(0, .inr (.inr (some this))), (1, .inl x1), (2, .inl x2), (3, .inl v17), (4, .inl (x4 + 1))] [2, 3, 4, 1, 0] rfl ?_
        exact hb5 _ _ _ _ _ _ h
theorem loX11_carrierOf_5 {X : Cx_}  {post : Int32 → Mm → Prop}  : ∀ (fu : Nat) {this : Nat} {x1 : Int32} {x2 : Int32} {x3 : Int32} {x4 : Int32} {M : Mm}, DX11_carrierOf_5  post fu this x1 x2 x3 x4 M → VV X mX11_carrierOf rX11_carrierOf (pI_ post) 5 [(0, .inr (.inr (some this))), (1, .inl x1), (2, .inl x2), (3, .inl x3), (4, .inl x4)] [] M 0 0
  | 0, _, _, _, _, _, _, h => False.elim h
  | fu + 1, _, _, _, _, _, _, h => bX11_carrierOf_5 (fun this x1 x2 x3 x4 M h => loX11_carrierOf_5  fu h) h
set_option maxHeartbeats 4000000 in
set_option maxRecDepth 100000 in
theorem ctX11_carrierOf {X : Cx_} {this : Nat} {a1 : Int32} {a2 : Int32} {M : Mm} {post : Int32 → Mm → Prop} (h : PX11_carrierOf this a1 a2 M post) : CT X mX11_carrierOf rX11_carrierOf [.inr (.inr (some this)), .inl a1, .inl a2] M (pI_ post) := by
  unfold PX11_carrierOf at h
  refine CT.of (by decide +kernel) (Nat.le_of_ble_eq_true rfl) ?_
  show VV X mX11_carrierOf rX11_carrierOf (pI_ post) 0 [(0, .inr (.inr (some this))), (1, .inl a1), (2, .inl a2)] [] M 0 0
  refine vv_iconst (mi := mX11_carrierOf) (pc := 0) (-1) dX11_carrierOf_0 rfl ?_
  refine vv_istore_n (mi := mX11_carrierOf) (pc := 1) [(3, .inl (-1)), (0, .inr (.inr (some this))), (1, .inl a1), (2, .inl a2)] dX11_carrierOf_1 rfl (Nat.le_of_ble_eq_true rfl) rfl ?_
  refine vv_iconst (mi := mX11_carrierOf) (pc := 2) 0 dX11_carrierOf_2 rfl ?_
  refine vv_istore (mi := mX11_carrierOf) (pc := 3) [(4, .inl 0), (3, .inl (-1)), (0, .inr (.inr (some this))), (1, .inl a1), (2, .inl a2)] dX11_carrierOf_3 (Nat.le_of_ble_eq_true rfl) rfl ?_
  refine vv_sub (mi := mX11_carrierOf) [(0, .inr (.inr (some this))), (1, .inl a1), (2, .inl a2), (3, .inl (-1)), (4, .inl 0)] [2, 3, 4, 1, 0] rfl ?_
  obtain ⟨fu, h⟩ := h
  exact loX11_carrierOf_5 (X := X)  fu h
set_option maxHeartbeats 4000000 in
set_option maxRecDepth 100000 in
theorem ctX11_port {X : Cx_} {this : Nat} {a1 : Int32} {a2 : Int32} {M : Mm} {post : Int32 → Mm → Prop} (h : PX11_port this a1 a2 M post) : CT X mX11_port rX11_port [.inr (.inr (some this)), .inl a1, .inl a2] M (pI_ post) := by
  unfold PX11_port at h
  refine CT.of (by decide +kernel) (Nat.le_of_ble_eq_true rfl) ?_
  show VV X mX11_port rX11_port (pI_ post) 0 [(0, .inr (.inr (some this))), (1, .inl a1), (2, .inl a2)] [] M 0 0
  refine vv_aload_n (mi := mX11_port) (pc := 0) 0 dX11_port_0 rfl rfl ?_
  refine vv_iload_n (mi := mX11_port) (pc := 1) 1 dX11_port_1 rfl rfl ?_
  obtain ⟨ht1, h⟩ := h
  refine vv_callV (mi := mX11_port) (pc := 2) (rest := []) (As := [.inl a1]) (ctX11_isLine (X := X) h) dX11_port_2 rfl ht1 (Nat.le_of_ble_eq_true rfl) rfl mb_X11_isLine rfl ml_X11_216 im_X11_isLine se_X11_isLine ⟨(Nat.le_of_ble_eq_true rfl), (Nat.le_of_ble_eq_true rfl)⟩ ⟨(Nat.le_of_ble_eq_true rfl), (Nat.le_of_ble_eq_true rfl)⟩ (Nat.le_of_ble_eq_true rfl) rfl (kI_ (F := fun st M' => VV X mX11_port rX11_port (pI_ post) 5 [(0, .inr (.inr (some this))), (1, .inl a1), (2, .inl a2)] st M' 0 0) (fun r2 M3 h => ?_))
  refine vv_if_eq (mi := mX11_port) (pc := 5) 30 dX11_port_5 rfl (fun c4 => ?_) (fun c4 => ?_)
  · replace h := h.1 c4
    refine vv_bipush (mi := mX11_port) (pc := 30) (-2) dX11_port_30 rfl ?_
    exact vv_iret (mi := mX11_port) (pc := 32) dX11_port_32 rfl (Nat.le_of_ble_eq_true rfl) (Nat.le_of_ble_eq_true rfl) h
  · replace h := h.2 c4
    refine vv_aload_n (mi := mX11_port) (pc := 8) 0 dX11_port_8 rfl rfl ?_
    obtain ⟨ht5, h⟩ := h
    refine vv_getR (mi := mX11_port) (pc := 9) 11 20 rfl ht5 fl_X11_62 (Nat.le_of_ble_eq_true rfl) dX11_port_9 ?_
    refine vv_iload_n (mi := mX11_port) (pc := 12) 1 dX11_port_12 rfl rfl ?_
    obtain ⟨aq6, hs7, h⟩ := h
    obtain ⟨ht8, h⟩ := h
    obtain ⟨hi9, h⟩ := h
    refine vv_iald (mi := mX11_port) (pc := 13) hs7 ht8 hi9 dX11_port_13 ?_
    refine vv_iconst (mi := mX11_port) (pc := 14) (-1) dX11_port_14 rfl ?_
    refine vv_icmp_ne (mi := mX11_port) (pc := 15) 30 dX11_port_15 rfl (fun c10 => ?_) (fun c10 => ?_)
    · replace h := h.1 c10
      refine vv_bipush (mi := mX11_port) (pc := 30) (-2) dX11_port_30 rfl ?_
      exact vv_iret (mi := mX11_port) (pc := 32) dX11_port_32 rfl (Nat.le_of_ble_eq_true rfl) (Nat.le_of_ble_eq_true rfl) h
    · replace h := h.2 c10
      refine vv_iload_n (mi := mX11_port) (pc := 18) 2 dX11_port_18 rfl rfl ?_
      refine vv_i2l (mi := mX11_port) (pc := 19) dX11_port_19 ?_
      refine vv_lconst (mi := mX11_port) (pc := 20) 0 dX11_port_20 rfl ?_
      refine vv_ldc2 (mi := mX11_port) (pc := 21) 99 dX11_port_21 kl_X11_162 ?_
      refine vv_callS (mi := mX11_port) (pc := 24) (rest := []) (As := [.inr (.inl (Int32.toInt64 a2)), .inr (.inl 0), .inr (.inl 99)]) (ctX11_in (X := X) h) dX11_port_24 mb_X11_in rfl ml_X11_110 sc_X11_in ⟨(Nat.le_of_ble_eq_true rfl), (Nat.le_of_ble_eq_true rfl)⟩ ⟨(Nat.le_of_ble_eq_true rfl), (Nat.le_of_ble_eq_true rfl)⟩ (Nat.le_of_ble_eq_true rfl) rfl (kI_ (F := fun st M' => VV X mX11_port rX11_port (pI_ post) 27 [(0, .inr (.inr (some this))), (1, .inl a1), (2, .inl a2)] st M' 0 0) (fun r11 M12 h => ?_))
      refine vv_if_ne (mi := mX11_port) (pc := 27) 33 dX11_port_27 rfl (fun c13 => ?_) (fun c13 => ?_)
      · replace h := h.1 c13
        refine vv_aload_n (mi := mX11_port) (pc := 33) 0 dX11_port_33 rfl rfl ?_
        obtain ⟨ht14, h⟩ := h
        refine vv_getI (mi := mX11_port) (pc := 34) 11 21 rfl ht14 fl_X11_219 (Nat.le_of_ble_eq_true rfl) dX11_port_34 ?_
        refine vv_sipush (mi := mX11_port) (pc := 37) 500 dX11_port_37 rfl ?_
        refine vv_icmp_ne (mi := mX11_port) (pc := 40) 46 dX11_port_40 rfl (fun c15 => ?_) (fun c15 => ?_)
        · replace h := h.1 c15
          refine vv_aload_n (mi := mX11_port) (pc := 46) 0 dX11_port_46 rfl rfl ?_
          refine vv_iload_n (mi := mX11_port) (pc := 47) 1 dX11_port_47 rfl rfl ?_
          refine vv_aload_n (mi := mX11_port) (pc := 48) 0 dX11_port_48 rfl rfl ?_
          refine vv_getI (mi := mX11_port) (pc := 49) 11 0 rfl ht14 fl_X11_114 (Nat.le_of_ble_eq_true rfl) dX11_port_49 ?_
          refine vv_callV (mi := mX11_port) (pc := 52) (rest := []) (As := [.inl a1, .inl (ddI M12 this 0)]) (ctX11_carrierOf (X := X) h) dX11_port_52 rfl ht14 (Nat.le_of_ble_eq_true rfl) rfl mb_X11_carrierOf rfl ml_X11_222 im_X11_carrierOf se_X11_carrierOf ⟨(Nat.le_of_ble_eq_true rfl), (Nat.le_of_ble_eq_true rfl)⟩ ⟨(Nat.le_of_ble_eq_true rfl), (Nat.le_of_ble_eq_true rfl)⟩ (Nat.le_of_ble_eq_true rfl) rfl (kI_ (F := fun st M' => VV X mX11_port rX11_port (pI_ post) 55 [(0, .inr (.inr (some this))), (1, .inl a1), (2, .inl a2)] st M' 0 0) (fun r16 M17 h => ?_))
          refine vv_istore_n (mi := mX11_port) (pc := 55) [(3, .inl r16), (0, .inr (.inr (some this))), (1, .inl a1), (2, .inl a2)] dX11_port_55 rfl (Nat.le_of_ble_eq_true rfl) rfl ?_
          refine vv_aload_n (mi := mX11_port) (pc := 56) 1 dX11_port_56 rfl rfl ?_
          obtain ⟨ht18, h⟩ := h
          refine vv_getR (mi := mX11_port) (pc := 57) 11 22 rfl ht18 fl_X11_65 (Nat.le_of_ble_eq_true rfl) dX11_port_57 ?_
          refine vv_aload_n (mi := mX11_port) (pc := 60) 1 dX11_port_60 rfl rfl ?_
          refine vv_getI (mi := mX11_port) (pc := 61) 11 21 rfl ht18 fl_X11_219 (Nat.le_of_ble_eq_true rfl) dX11_port_61 ?_
          refine vv_iload_n (mi := mX11_port) (pc := 64) 2 dX11_port_64 rfl rfl ?_
          obtain ⟨aq19, hs20, h⟩ := h
          obtain ⟨ht21, h⟩ := h
          obtain ⟨hi22, h⟩ := h
          obtain ⟨M23, eM23⟩ : ∃ z : Mm, z = suI M17 aq19 (Int32.toNatClampNeg (ddI M17 this 21)) a1 := ⟨_, rfl⟩
          replace h := h _ eM23
          refine vv_iast (mi := mX11_port) (pc := 65) hs20 ht21 hi22 dX11_port_65 eM23 ?_
          refine vv_aload_n (mi := mX11_port) (pc := 66) 1 dX11_port_66 rfl rfl ?_
          refine vv_getR (mi := mX11_port) (pc := 67) 11 23 rfl (tgI_ eM23 ht18) fl_X11_68 (Nat.le_of_ble_eq_true rfl) dX11_port_67 ?_
          refine vv_aload_n (mi := mX11_port) (pc := 70) 1 dX11_port_70 rfl rfl ?_
          refine vv_getI (mi := mX11_port) (pc := 71) 11 21 rfl (tgI_ eM23 ht18) fl_X11_219 (Nat.le_of_ble_eq_true rfl) dX11_port_71 ?_
          refine vv_aload_n (mi := mX11_port) (pc := 74) 1 dX11_port_74 rfl rfl ?_
          refine vv_getI (mi := mX11_port) (pc := 75) 11 0 rfl (tgI_ eM23 ht18) fl_X11_114 (Nat.le_of_ble_eq_true rfl) dX11_port_75 ?_
          obtain ⟨aq24, hs25, h⟩ := h
          obtain ⟨ht26, h⟩ := h
          obtain ⟨hi27, h⟩ := h
          obtain ⟨M28, eM28⟩ : ∃ z : Mm, z = suI M23 aq24 (Int32.toNatClampNeg (ddI M23 this 21)) (ddI M23 this 0) := ⟨_, rfl⟩
          replace h := h _ eM28
          refine vv_iast (mi := mX11_port) (pc := 78) hs25 ht26 hi27 dX11_port_78 eM28 ?_
          refine vv_aload_n (mi := mX11_port) (pc := 79) 1 dX11_port_79 rfl rfl ?_
          refine vv_getR (mi := mX11_port) (pc := 80) 11 24 rfl (tgI_ eM28 (tgI_ eM23 ht18)) fl_X11_71 (Nat.le_of_ble_eq_true rfl) dX11_port_80 ?_
          refine vv_aload_n (mi := mX11_port) (pc := 83) 1 dX11_port_83 rfl rfl ?_
          refine vv_getI (mi := mX11_port) (pc := 84) 11 21 rfl (tgI_ eM28 (tgI_ eM23 ht18)) fl_X11_219 (Nat.le_of_ble_eq_true rfl) dX11_port_84 ?_
          refine vv_iload_n (mi := mX11_port) (pc := 87) 3 dX11_port_87 rfl rfl ?_
          obtain ⟨aq29, hs30, h⟩ := h
          obtain ⟨ht31, h⟩ := h
          obtain ⟨hi32, h⟩ := h
          obtain ⟨M33, eM33⟩ : ∃ z : Mm, z = suI M28 aq29 (Int32.toNatClampNeg (ddI M28 this 21)) a2 := ⟨_, rfl⟩
          replace h := h _ eM33
          refine vv_iast (mi := mX11_port) (pc := 88) hs30 ht31 hi32 dX11_port_88 eM33 ?_
          refine vv_aload_n (mi := mX11_port) (pc := 89) 1 dX11_port_89 rfl rfl ?_
          refine vv_dup (mi := mX11_port) (pc := 90) dX11_port_90 rfl ?_
          refine vv_getI (mi := mX11_port) (pc := 91) 11 21 rfl (tgI_ eM33 (tgI_ eM28 (tgI_ eM23 ht18))) fl_X11_219 (Nat.le_of_ble_eq_true rfl) dX11_port_91 ?_
          refine vv_iconst (mi := mX11_port) (pc := 94) 1 dX11_port_94 rfl ?_
          refine vv_iadd (mi := mX11_port) (pc := 95) dX11_port_95 ?_
          obtain ⟨M34, eM34⟩ : ∃ z : Mm, z = suI M33 this 21 ((ddI M33 this 21) + 1) := ⟨_, rfl⟩
          replace h := h _ eM34
          refine vv_putI (mi := mX11_port) (pc := 96) 11 21 rfl (tgI_ eM33 (tgI_ eM28 (tgI_ eM23 ht18))) fq_X11_219 (fun q => by cases q) rfl (Nat.le_of_ble_eq_true rfl) dX11_port_96 eM34 ?_
          refine vv_iload_n (mi := mX11_port) (pc := 99) 0 dX11_port_99 rfl rfl ?_
          exact vv_iret (mi := mX11_port) (pc := 100) dX11_port_100 rfl (Nat.le_of_ble_eq_true rfl) (Nat.le_of_ble_eq_true rfl) h
        · replace h := h.2 c15
          refine vv_bipush (mi := mX11_port) (pc := 43) (-3) dX11_port_43 rfl ?_
          exact vv_iret (mi := mX11_port) (pc := 45) dX11_port_45 rfl (Nat.le_of_ble_eq_true rfl) (Nat.le_of_ble_eq_true rfl) h
      · replace h := h.2 c13
        refine vv_bipush (mi := mX11_port) (pc := 30) (-2) dX11_port_30 rfl ?_
        exact vv_iret (mi := mX11_port) (pc := 32) dX11_port_32 rfl (Nat.le_of_ble_eq_true rfl) (Nat.le_of_ble_eq_true rfl) h
set_option maxHeartbeats 4000000 in
set_option maxRecDepth 100000 in
theorem bX11_joined_12 {X : Cx_} {kb12 : Int64 → Int64 → Int32 → Int32 → Mm → Prop} {post : Int64 → Mm → Prop} (hb12 : ∀ (x2 : Int64) (x4 : Int64) (x6 : Int32) (x7 : Int32) (M : Mm), kb12 x2 x4 x6 x7 M → VV X mX11_joined rX11_joined (pL_ post) 12 [(2, .inr (.inl x2)), (4, .inr (.inl x4)), (6, .inl x6), (7, .inl x7)] [] M 0 0) {x2 : Int64} {x4 : Int64} {x6 : Int32} {x7 : Int32} {M : Mm} (h : BX11_joined_12 kb12 post x2 x4 x6 x7 M) : VV X mX11_joined rX11_joined (pL_ post) 12 [(2, .inr (.inl x2)), (4, .inr (.inl x4)), (6, .inl x6), (7, .inl x7)] [] M 0 0 := by
  unfold BX11_joined_12 at h
  refine vv_iload (mi := mX11_joined) (pc := 12) 3 dX11_joined_12 rfl ?_
  refine vv_iload (mi := mX11_joined) (pc := 14) 2 dX11_joined_14 rfl ?_
  refine vv_icmp_ge (mi := mX11_joined) (pc := 16) 41 dX11_joined_16 rfl (fun c3 => ?_) (fun c3 => ?_)
  · replace h := h.1 c3
    refine vv_lload (mi := mX11_joined) (pc := 41) 1 dX11_joined_41 rfl ?_
    exact vv_lret (mi := mX11_joined) (pc := 43) dX11_joined_43 rfl (Nat.le_of_ble_eq_true rfl) (Nat.le_of_ble_eq_true rfl) h
  · replace h := h.2 c3
    refine vv_ldc2 (mi := mX11_joined) (pc := 19) 10 dX11_joined_19 kl_X11_120 ?_
    refine vv_lload (mi := mX11_joined) (pc := 22) 1 dX11_joined_22 rfl ?_
    refine vv_lmul (mi := mX11_joined) (pc := 24) dX11_joined_24 ?_
    refine vv_lload_n (mi := mX11_joined) (pc := 25) 0 dX11_joined_25 rfl rfl ?_
    refine vv_iload (mi := mX11_joined) (pc := 26) 3 dX11_joined_26 rfl ?_
    refine vv_callS (mi := mX11_joined) (pc := 28) (rest := [.inr (.inl (10 * x4))]) (As := [.inr (.inl x2), .inl x7]) (ctX11_figureAt (X := X) h) dX11_joined_28 mb_X11_figureAt rfl ml_X11_183 sc_X11_figureAt ⟨(Nat.le_of_ble_eq_true rfl), (Nat.le_of_ble_eq_true rfl)⟩ ⟨(Nat.le_of_ble_eq_true rfl), (Nat.le_of_ble_eq_true rfl)⟩ (Nat.le_of_ble_eq_true rfl) rfl (kI_ (F := fun st M' => VV X mX11_joined rX11_joined (pL_ post) 31 [(2, .inr (.inl x2)), (4, .inr (.inl x4)), (6, .inl x6), (7, .inl x7)] st M' 0 0) (fun r4 M5 h => ?_))
    refine vv_i2l (mi := mX11_joined) (pc := 31) dX11_joined_31 ?_
    refine vv_ladd (mi := mX11_joined) (pc := 32) dX11_joined_32 ?_
    obtain ⟨v6, ev6⟩ : ∃ z : Int64, z = ((10 * x4) + (Int32.toInt64 r4)) := ⟨_, rfl⟩
    refine vv_namL ev6 ?_
    replace h := h _ ev6
    refine vv_lstore (mi := mX11_joined) (pc := 33) [(4, .inr (.inl v6)), (2, .inr (.inl x2)), (6, .inl x6), (7, .inl x7)] dX11_joined_33 (Nat.le_of_ble_eq_true rfl) rfl ?_
    refine vv_iinc (mi := mX11_joined) (pc := 35) (x7 + 1) 3 [(7, .inl (x7 + 1)), (4, .inr (.inl v6)), (2, .inr (.inl x2)), (6, .inl x6)] dX11_joined_35 rfl rfl (Nat.le_of_ble_eq_true rfl) rfl ?_
    refine vv_goto (mi := mX11_joined) (pc := 38) 12 dX11_joined_38 rfl ?_
    refine vv_sub (mi := mX11_joined) [(2, .inr (.inl x2)), (4, .inr (.inl v6)), (6, .inl x6), (7, .inl (x7 + 1))] [2, 1, 3, 0] rfl ?_
    exact hb12 _ _ _ _ _ h
theorem loX11_joined_12 {X : Cx_}  {post : Int64 → Mm → Prop}  : ∀ (fu : Nat) {x2 : Int64} {x4 : Int64} {x6 : Int32} {x7 : Int32} {M : Mm}, DX11_joined_12  post fu x2 x4 x6 x7 M → VV X mX11_joined rX11_joined (pL_ post) 12 [(2, .inr (.inl x2)), (4, .inr (.inl x4)), (6, .inl x6), (7, .inl x7)] [] M 0 0
  | 0, _, _, _, _, _, h => False.elim h
  | fu + 1, _, _, _, _, _, h => bX11_joined_12 (fun x2 x4 x6 x7 M h => loX11_joined_12  fu h) h
set_option maxHeartbeats 4000000 in
set_option maxRecDepth 100000 in
theorem ctX11_joined {X : Cx_} {a1 : Int64} {a2 : Int64} {M : Mm} {post : Int64 → Mm → Prop} (h : PX11_joined a1 a2 M post) : CT X mX11_joined rX11_joined [.inr (.inl a1), .inr (.inl a2)] M (pL_ post) := by
  unfold PX11_joined at h
  refine CT.of (by decide +kernel) (Nat.le_of_ble_eq_true rfl) ?_
  show VV X mX11_joined rX11_joined (pL_ post) 0 [(0, .inr (.inl a1)), (2, .inr (.inl a2))] [] M 0 0
  refine vv_lload_n (mi := mX11_joined) (pc := 0) 0 dX11_joined_0 rfl rfl ?_
  refine vv_lstore (mi := mX11_joined) (pc := 1) [(4, .inr (.inl a1)), (0, .inr (.inl a1)), (2, .inr (.inl a2))] dX11_joined_1 (Nat.le_of_ble_eq_true rfl) rfl ?_
  refine vv_lload_n (mi := mX11_joined) (pc := 3) 2 dX11_joined_3 rfl rfl ?_
  refine vv_callS (mi := mX11_joined) (pc := 4) (rest := []) (As := [.inr (.inl a2)]) (ctX11_figuresOf (X := X) h) dX11_joined_4 mb_X11_figuresOf rfl ml_X11_122 sc_X11_figuresOf ⟨(Nat.le_of_ble_eq_true rfl), (Nat.le_of_ble_eq_true rfl)⟩ ⟨(Nat.le_of_ble_eq_true rfl), (Nat.le_of_ble_eq_true rfl)⟩ (Nat.le_of_ble_eq_true rfl) rfl (kI_ (F := fun st M' => VV X mX11_joined rX11_joined (pL_ post) 7 [(4, .inr (.inl a1)), (0, .inr (.inl a1)), (2, .inr (.inl a2))] st M' 0 0) (fun r1 M2 h => ?_))
  refine vv_istore (mi := mX11_joined) (pc := 7) [(6, .inl r1), (4, .inr (.inl a1)), (0, .inr (.inl a1)), (2, .inr (.inl a2))] dX11_joined_7 (Nat.le_of_ble_eq_true rfl) rfl ?_
  refine vv_iconst (mi := mX11_joined) (pc := 9) 0 dX11_joined_9 rfl ?_
  refine vv_istore (mi := mX11_joined) (pc := 10) [(7, .inl 0), (6, .inl r1), (4, .inr (.inl a1)), (0, .inr (.inl a1)), (2, .inr (.inl a2))] dX11_joined_10 (Nat.le_of_ble_eq_true rfl) rfl ?_
  refine vv_sub (mi := mX11_joined) [(2, .inr (.inl a2)), (4, .inr (.inl a1)), (6, .inl r1), (7, .inl 0)] [4, 2, 1, 0] rfl ?_
  obtain ⟨fu, h⟩ := h
  exact loX11_joined_12 (X := X)  fu h
set_option maxHeartbeats 4000000 in
set_option maxRecDepth 100000 in
theorem ctX11_numberOf {X : Cx_} {this : Nat} {a1 : Int32} {a2 : Int32} {M : Mm} {post : Int64 → Mm → Prop} (h : PX11_numberOf this a1 a2 M post) : CT X mX11_numberOf rX11_numberOf [.inr (.inr (some this)), .inl a1, .inl a2] M (pL_ post) := by
  unfold PX11_numberOf at h
  refine CT.of (by decide +kernel) (Nat.le_of_ble_eq_true rfl) ?_
  show VV X mX11_numberOf rX11_numberOf (pL_ post) 0 [(0, .inr (.inr (some this))), (1, .inl a1), (2, .inl a2)] [] M 0 0
  refine vv_aload_n (mi := mX11_numberOf) (pc := 0) 0 dX11_numberOf_0 rfl rfl ?_
  refine vv_iload_n (mi := mX11_numberOf) (pc := 1) 1 dX11_numberOf_1 rfl rfl ?_
  obtain ⟨ht1, h⟩ := h
  refine vv_callV (mi := mX11_numberOf) (pc := 2) (rest := []) (As := [.inl a1]) (ctX11_isLine (X := X) h) dX11_numberOf_2 rfl ht1 (Nat.le_of_ble_eq_true rfl) rfl mb_X11_isLine rfl ml_X11_216 im_X11_isLine se_X11_isLine ⟨(Nat.le_of_ble_eq_true rfl), (Nat.le_of_ble_eq_true rfl)⟩ ⟨(Nat.le_of_ble_eq_true rfl), (Nat.le_of_ble_eq_true rfl)⟩ (Nat.le_of_ble_eq_true rfl) rfl (kI_ (F := fun st M' => VV X mX11_numberOf rX11_numberOf (pL_ post) 5 [(0, .inr (.inr (some this))), (1, .inl a1), (2, .inl a2)] st M' 0 0) (fun r2 M3 h => ?_))
  refine vv_if_eq (mi := mX11_numberOf) (pc := 5) 15 dX11_numberOf_5 rfl (fun c4 => ?_) (fun c4 => ?_)
  · replace h := h.1 c4
    refine vv_ldc2 (mi := mX11_numberOf) (pc := 15) (-1) dX11_numberOf_15 kl_X11_225 ?_
    exact vv_lret (mi := mX11_numberOf) (pc := 18) dX11_numberOf_18 rfl (Nat.le_of_ble_eq_true rfl) (Nat.le_of_ble_eq_true rfl) h
  · replace h := h.2 c4
    refine vv_iload_n (mi := mX11_numberOf) (pc := 8) 2 dX11_numberOf_8 rfl rfl ?_
    refine vv_callS (mi := mX11_numberOf) (pc := 9) (rest := []) (As := [.inl a2]) (ctX11_isDay (X := X) h) dX11_numberOf_9 mb_X11_isDay rfl ml_X11_194 sc_X11_isDay ⟨(Nat.le_of_ble_eq_true rfl), (Nat.le_of_ble_eq_true rfl)⟩ ⟨(Nat.le_of_ble_eq_true rfl), (Nat.le_of_ble_eq_true rfl)⟩ (Nat.le_of_ble_eq_true rfl) rfl (kI_ (F := fun st M' => VV X mX11_numberOf rX11_numberOf (pL_ post) 12 [(0, .inr (.inr (some this))), (1, .inl a1), (2, .inl a2)] st M' 0 0) (fun r5 M6 h => ?_))
    refine vv_if_ne (mi := mX11_numberOf) (pc := 12) 19 dX11_numberOf_12 rfl (fun c7 => ?_) (fun c7 => ?_)
    · replace h := h.1 c7
      refine vv_aload_n (mi := mX11_numberOf) (pc := 19) 0 dX11_numberOf_19 rfl rfl ?_
      refine vv_iload_n (mi := mX11_numberOf) (pc := 20) 1 dX11_numberOf_20 rfl rfl ?_
      refine vv_iload_n (mi := mX11_numberOf) (pc := 21) 2 dX11_numberOf_21 rfl rfl ?_
      obtain ⟨ht8, h⟩ := h
      refine vv_callV (mi := mX11_numberOf) (pc := 22) (rest := []) (As := [.inl a1, .inl a2]) (ctX11_blockOf (X := X) h) dX11_numberOf_22 rfl ht8 (Nat.le_of_ble_eq_true rfl) rfl mb_X11_blockOf rfl ml_X11_210 im_X11_blockOf se_X11_blockOf ⟨(Nat.le_of_ble_eq_true rfl), (Nat.le_of_ble_eq_true rfl)⟩ ⟨(Nat.le_of_ble_eq_true rfl), (Nat.le_of_ble_eq_true rfl)⟩ (Nat.le_of_ble_eq_true rfl) rfl (kI_ (F := fun st M' => VV X mX11_numberOf rX11_numberOf (pL_ post) 25 [(0, .inr (.inr (some this))), (1, .inl a1), (2, .inl a2)] st M' 0 0) (fun r9 M10 h => ?_))
      refine vv_istore_n (mi := mX11_numberOf) (pc := 25) [(3, .inl r9), (0, .inr (.inr (some this))), (1, .inl a1), (2, .inl a2)] dX11_numberOf_25 rfl (Nat.le_of_ble_eq_true rfl) rfl ?_
      refine vv_iload_n (mi := mX11_numberOf) (pc := 26) 0 dX11_numberOf_26 rfl rfl ?_
      refine vv_iconst (mi := mX11_numberOf) (pc := 27) (-1) dX11_numberOf_27 rfl ?_
      refine vv_icmp_ne (mi := mX11_numberOf) (pc := 28) 37 dX11_numberOf_28 rfl (fun c11 => ?_) (fun c11 => ?_)
      · replace h := h.1 c11
        refine vv_aload_n (mi := mX11_numberOf) (pc := 37) 1 dX11_numberOf_37 rfl rfl ?_
        obtain ⟨ht12, h⟩ := h
        refine vv_getR (mi := mX11_numberOf) (pc := 38) 11 4 rfl ht12 fl_X11_16 (Nat.le_of_ble_eq_true rfl) dX11_numberOf_38 ?_
        refine vv_iload_n (mi := mX11_numberOf) (pc := 41) 0 dX11_numberOf_41 rfl rfl ?_
        obtain ⟨aq13, hs14, h⟩ := h
        obtain ⟨ht15, h⟩ := h
        obtain ⟨hi16, h⟩ := h
        refine vv_iald (mi := mX11_numberOf) (pc := 42) hs14 ht15 hi16 dX11_numberOf_42 ?_
        refine vv_i2l (mi := mX11_numberOf) (pc := 43) dX11_numberOf_43 ?_
        refine vv_aload_n (mi := mX11_numberOf) (pc := 44) 1 dX11_numberOf_44 rfl rfl ?_
        refine vv_getR (mi := mX11_numberOf) (pc := 45) 11 18 rfl ht12 fl_X11_56 (Nat.le_of_ble_eq_true rfl) dX11_numberOf_45 ?_
        refine vv_iload_n (mi := mX11_numberOf) (pc := 48) 2 dX11_numberOf_48 rfl rfl ?_
        obtain ⟨aq17, hs18, h⟩ := h
        obtain ⟨ht19, h⟩ := h
        obtain ⟨hi20, h⟩ := h
        refine vv_lald (mi := mX11_numberOf) (pc := 49) hs18 ht19 hi20 dX11_numberOf_49 ?_
        refine vv_callS (mi := mX11_numberOf) (pc := 50) (rest := []) (As := [.inr (.inl (Int32.toInt64 (ddI M10 aq13 (Int32.toNatClampNeg r9)))), .inr (.inl (ddL M10 aq17 (Int32.toNatClampNeg a1)))]) (ctX11_joined (X := X) h) dX11_numberOf_50 mb_X11_joined rfl ml_X11_227 sc_X11_joined ⟨(Nat.le_of_ble_eq_true rfl), (Nat.le_of_ble_eq_true rfl)⟩ ⟨(Nat.le_of_ble_eq_true rfl), (Nat.le_of_ble_eq_true rfl)⟩ (Nat.le_of_ble_eq_true rfl) rfl (kL_ (F := fun st M' => VV X mX11_numberOf rX11_numberOf (pL_ post) 53 [(3, .inl r9), (0, .inr (.inr (some this))), (1, .inl a1), (2, .inl a2)] st M' 0 0) (fun r21 M22 h => ?_))
        exact vv_lret (mi := mX11_numberOf) (pc := 53) dX11_numberOf_53 rfl (Nat.le_of_ble_eq_true rfl) (Nat.le_of_ble_eq_true rfl) h
      · replace h := h.2 c11
        refine vv_ldc2 (mi := mX11_numberOf) (pc := 31) (-1) dX11_numberOf_31 kl_X11_225 ?_
        refine vv_goto (mi := mX11_numberOf) (pc := 34) 53 dX11_numberOf_34 rfl ?_
        exact vv_lret (mi := mX11_numberOf) (pc := 53) dX11_numberOf_53 rfl (Nat.le_of_ble_eq_true rfl) (Nat.le_of_ble_eq_true rfl) h
    · replace h := h.2 c7
      refine vv_ldc2 (mi := mX11_numberOf) (pc := 15) (-1) dX11_numberOf_15 kl_X11_225 ?_
      exact vv_lret (mi := mX11_numberOf) (pc := 18) dX11_numberOf_18 rfl (Nat.le_of_ble_eq_true rfl) (Nat.le_of_ble_eq_true rfl) h
set_option maxHeartbeats 4000000 in
set_option maxRecDepth 100000 in
theorem ctX11_lineAt {X : Cx_} {this : Nat} {a1 : Int32} {a2 : Int32} {a3 : Int32} {M : Mm} {post : Int32 → Mm → Prop} (h : PX11_lineAt this a1 a2 a3 M post) : CT X mX11_lineAt rX11_lineAt [.inr (.inr (some this)), .inl a1, .inl a2, .inl a3] M (pI_ post) := by
  unfold PX11_lineAt at h
  refine CT.of (by decide +kernel) (Nat.le_of_ble_eq_true rfl) ?_
  show VV X mX11_lineAt rX11_lineAt (pI_ post) 0 [(0, .inr (.inr (some this))), (1, .inl a1), (2, .inl a2), (3, .inl a3)] [] M 0 0
  refine vv_aload_n (mi := mX11_lineAt) (pc := 0) 0 dX11_lineAt_0 rfl rfl ?_
  refine vv_iload_n (mi := mX11_lineAt) (pc := 1) 1 dX11_lineAt_1 rfl rfl ?_
  obtain ⟨ht1, h⟩ := h
  refine vv_callV (mi := mX11_lineAt) (pc := 2) (rest := []) (As := [.inl a1]) (ctX11_isLine (X := X) h) dX11_lineAt_2 rfl ht1 (Nat.le_of_ble_eq_true rfl) rfl mb_X11_isLine rfl ml_X11_216 im_X11_isLine se_X11_isLine ⟨(Nat.le_of_ble_eq_true rfl), (Nat.le_of_ble_eq_true rfl)⟩ ⟨(Nat.le_of_ble_eq_true rfl), (Nat.le_of_ble_eq_true rfl)⟩ (Nat.le_of_ble_eq_true rfl) rfl (kI_ (F := fun st M' => VV X mX11_lineAt rX11_lineAt (pI_ post) 5 [(0, .inr (.inr (some this))), (1, .inl a1), (2, .inl a2), (3, .inl a3)] st M' 0 0) (fun r2 M3 h => ?_))
  refine vv_if_eq (mi := mX11_lineAt) (pc := 5) 15 dX11_lineAt_5 rfl (fun c4 => ?_) (fun c4 => ?_)
  · replace h := h.1 c4
    refine vv_iconst (mi := mX11_lineAt) (pc := 15) (-1) dX11_lineAt_15 rfl ?_
    exact vv_iret (mi := mX11_lineAt) (pc := 16) dX11_lineAt_16 rfl (Nat.le_of_ble_eq_true rfl) (Nat.le_of_ble_eq_true rfl) h
  · replace h := h.2 c4
    refine vv_iload_n (mi := mX11_lineAt) (pc := 8) 2 dX11_lineAt_8 rfl rfl ?_
    refine vv_callS (mi := mX11_lineAt) (pc := 9) (rest := []) (As := [.inl a2]) (ctX11_isDay (X := X) h) dX11_lineAt_9 mb_X11_isDay rfl ml_X11_194 sc_X11_isDay ⟨(Nat.le_of_ble_eq_true rfl), (Nat.le_of_ble_eq_true rfl)⟩ ⟨(Nat.le_of_ble_eq_true rfl), (Nat.le_of_ble_eq_true rfl)⟩ (Nat.le_of_ble_eq_true rfl) rfl (kI_ (F := fun st M' => VV X mX11_lineAt rX11_lineAt (pI_ post) 12 [(0, .inr (.inr (some this))), (1, .inl a1), (2, .inl a2), (3, .inl a3)] st M' 0 0) (fun r5 M6 h => ?_))
    refine vv_if_ne (mi := mX11_lineAt) (pc := 12) 17 dX11_lineAt_12 rfl (fun c7 => ?_) (fun c7 => ?_)
    · replace h := h.1 c7
      refine vv_aload_n (mi := mX11_lineAt) (pc := 17) 0 dX11_lineAt_17 rfl rfl ?_
      refine vv_iload_n (mi := mX11_lineAt) (pc := 18) 1 dX11_lineAt_18 rfl rfl ?_
      refine vv_iload_n (mi := mX11_lineAt) (pc := 19) 2 dX11_lineAt_19 rfl rfl ?_
      obtain ⟨ht8, h⟩ := h
      refine vv_callV (mi := mX11_lineAt) (pc := 20) (rest := []) (As := [.inl a1, .inl a2]) (ctX11_blockOf (X := X) h) dX11_lineAt_20 rfl ht8 (Nat.le_of_ble_eq_true rfl) rfl mb_X11_blockOf rfl ml_X11_210 im_X11_blockOf se_X11_blockOf ⟨(Nat.le_of_ble_eq_true rfl), (Nat.le_of_ble_eq_true rfl)⟩ ⟨(Nat.le_of_ble_eq_true rfl), (Nat.le_of_ble_eq_true rfl)⟩ (Nat.le_of_ble_eq_true rfl) rfl (kI_ (F := fun st M' => VV X mX11_lineAt rX11_lineAt (pI_ post) 23 [(0, .inr (.inr (some this))), (1, .inl a1), (2, .inl a2), (3, .inl a3)] st M' 0 0) (fun r9 M10 h => ?_))
      refine vv_istore (mi := mX11_lineAt) (pc := 23) [(4, .inl r9), (0, .inr (.inr (some this))), (1, .inl a1), (2, .inl a2), (3, .inl a3)] dX11_lineAt_23 (Nat.le_of_ble_eq_true rfl) rfl ?_
      refine vv_iload (mi := mX11_lineAt) (pc := 25) 0 dX11_lineAt_25 rfl ?_
      refine vv_iconst (mi := mX11_lineAt) (pc := 27) (-1) dX11_lineAt_27 rfl ?_
      refine vv_icmp_ne (mi := mX11_lineAt) (pc := 28) 33 dX11_lineAt_28 rfl (fun c11 => ?_) (fun c11 => ?_)
      · replace h := h.1 c11
        refine vv_iload_n (mi := mX11_lineAt) (pc := 33) 4 dX11_lineAt_33 rfl rfl ?_
        refine vv_if_ne (mi := mX11_lineAt) (pc := 34) 42 dX11_lineAt_34 rfl (fun c12 => ?_) (fun c12 => ?_)
        · replace h := h.1 c12
          refine vv_iload_n (mi := mX11_lineAt) (pc := 42) 4 dX11_lineAt_42 rfl rfl ?_
          refine vv_iconst (mi := mX11_lineAt) (pc := 43) 1 dX11_lineAt_43 rfl ?_
          refine vv_icmp_ne (mi := mX11_lineAt) (pc := 44) 56 dX11_lineAt_44 rfl (fun c13 => ?_) (fun c13 => ?_)
          · replace h := h.1 c13
            refine vv_iload_n (mi := mX11_lineAt) (pc := 56) 4 dX11_lineAt_56 rfl rfl ?_
            refine vv_iconst (mi := mX11_lineAt) (pc := 57) 2 dX11_lineAt_57 rfl ?_
            refine vv_icmp_ne (mi := mX11_lineAt) (pc := 58) 71 dX11_lineAt_58 rfl (fun c14 => ?_) (fun c14 => ?_)
            · replace h := h.1 c14
              refine vv_iconst (mi := mX11_lineAt) (pc := 71) (-1) dX11_lineAt_71 rfl ?_
              exact vv_iret (mi := mX11_lineAt) (pc := 72) dX11_lineAt_72 rfl (Nat.le_of_ble_eq_true rfl) (Nat.le_of_ble_eq_true rfl) h
            · replace h := h.2 c14
              refine vv_aload_n (mi := mX11_lineAt) (pc := 61) 1 dX11_lineAt_61 rfl rfl ?_
              obtain ⟨ht15, h⟩ := h
              refine vv_getR (mi := mX11_lineAt) (pc := 62) 11 3 rfl ht15 fl_X11_13 (Nat.le_of_ble_eq_true rfl) dX11_lineAt_62 ?_
              refine vv_iload (mi := mX11_lineAt) (pc := 65) 0 dX11_lineAt_65 rfl ?_
              obtain ⟨aq16, hs17, h⟩ := h
              obtain ⟨ht18, h⟩ := h
              obtain ⟨hi19, h⟩ := h
              refine vv_iald (mi := mX11_lineAt) (pc := 67) hs17 ht18 hi19 dX11_lineAt_67 ?_
              refine vv_goto (mi := mX11_lineAt) (pc := 68) 72 dX11_lineAt_68 rfl ?_
              exact vv_iret (mi := mX11_lineAt) (pc := 72) dX11_lineAt_72 rfl (Nat.le_of_ble_eq_true rfl) (Nat.le_of_ble_eq_true rfl) h
          · replace h := h.2 c13
            refine vv_aload_n (mi := mX11_lineAt) (pc := 47) 1 dX11_lineAt_47 rfl rfl ?_
            refine vv_iload_n (mi := mX11_lineAt) (pc := 48) 2 dX11_lineAt_48 rfl rfl ?_
            refine vv_iload_n (mi := mX11_lineAt) (pc := 49) 3 dX11_lineAt_49 rfl rfl ?_
            obtain ⟨ht20, h⟩ := h
            refine vv_callV (mi := mX11_lineAt) (pc := 50) (rest := []) (As := [.inl a1, .inl a2]) (ctX11_carrierOf (X := X) h) dX11_lineAt_50 rfl ht20 (Nat.le_of_ble_eq_true rfl) rfl mb_X11_carrierOf rfl ml_X11_222 im_X11_carrierOf se_X11_carrierOf ⟨(Nat.le_of_ble_eq_true rfl), (Nat.le_of_ble_eq_true rfl)⟩ ⟨(Nat.le_of_ble_eq_true rfl), (Nat.le_of_ble_eq_true rfl)⟩ (Nat.le_of_ble_eq_true rfl) rfl (kI_ (F := fun st M' => VV X mX11_lineAt rX11_lineAt (pI_ post) 53 [(4, .inl r9), (0, .inr (.inr (some this))), (1, .inl a1), (2, .inl a2), (3, .inl a3)] st M' 0 0) (fun r21 M22 h => ?_))
            refine vv_goto (mi := mX11_lineAt) (pc := 53) 72 dX11_lineAt_53 rfl ?_
            exact vv_iret (mi := mX11_lineAt) (pc := 72) dX11_lineAt_72 rfl (Nat.le_of_ble_eq_true rfl) (Nat.le_of_ble_eq_true rfl) h
        · replace h := h.2 c12
          refine vv_iload (mi := mX11_lineAt) (pc := 37) 0 dX11_lineAt_37 rfl ?_
          refine vv_goto (mi := mX11_lineAt) (pc := 39) 72 dX11_lineAt_39 rfl ?_
          exact vv_iret (mi := mX11_lineAt) (pc := 72) dX11_lineAt_72 rfl (Nat.le_of_ble_eq_true rfl) (Nat.le_of_ble_eq_true rfl) h
      · replace h := h.2 c11
        refine vv_iconst (mi := mX11_lineAt) (pc := 31) (-1) dX11_lineAt_31 rfl ?_
        exact vv_iret (mi := mX11_lineAt) (pc := 32) dX11_lineAt_32 rfl (Nat.le_of_ble_eq_true rfl) (Nat.le_of_ble_eq_true rfl) h
    · replace h := h.2 c7
      refine vv_iconst (mi := mX11_lineAt) (pc := 15) (-1) dX11_lineAt_15 rfl ?_
      exact vv_iret (mi := mX11_lineAt) (pc := 16) dX11_lineAt_16 rfl (Nat.le_of_ble_eq_true rfl) (Nat.le_of_ble_eq_true rfl) h
set_option maxHeartbeats 4000000 in
set_option maxRecDepth 100000 in
theorem ctX11_isCall {X : Cx_} {this : Nat} {a1 : Int32} {M : Mm} {post : Int32 → Mm → Prop} (h : PX11_isCall this a1 M post) : CT X mX11_isCall rX11_isCall [.inr (.inr (some this)), .inl a1] M (pI_ post) := by
  unfold PX11_isCall at h
  refine CT.of (by decide +kernel) (Nat.le_of_ble_eq_true rfl) ?_
  show VV X mX11_isCall rX11_isCall (pI_ post) 0 [(0, .inr (.inr (some this))), (1, .inl a1)] [] M 0 0
  refine vv_iload_n (mi := mX11_isCall) (pc := 0) 1 dX11_isCall_0 rfl rfl ?_
  refine vv_i2l (mi := mX11_isCall) (pc := 1) dX11_isCall_1 ?_
  refine vv_lconst (mi := mX11_isCall) (pc := 2) 0 dX11_isCall_2 rfl ?_
  refine vv_ldc2 (mi := mX11_isCall) (pc := 3) 3 dX11_isCall_3 kl_X11_231 ?_
  refine vv_callS (mi := mX11_isCall) (pc := 6) (rest := []) (As := [.inr (.inl (Int32.toInt64 a1)), .inr (.inl 0), .inr (.inl 3)]) (ctX11_in (X := X) h) dX11_isCall_6 mb_X11_in rfl ml_X11_110 sc_X11_in ⟨(Nat.le_of_ble_eq_true rfl), (Nat.le_of_ble_eq_true rfl)⟩ ⟨(Nat.le_of_ble_eq_true rfl), (Nat.le_of_ble_eq_true rfl)⟩ (Nat.le_of_ble_eq_true rfl) rfl (kI_ (F := fun st M' => VV X mX11_isCall rX11_isCall (pI_ post) 9 [(0, .inr (.inr (some this))), (1, .inl a1)] st M' 0 0) (fun r1 M2 h => ?_))
  obtain ⟨hz3, h⟩ := h
  exact vv_zret (mi := mX11_isCall) (pc := 9) dX11_isCall_9 rfl hz3 (Nat.le_of_ble_eq_true rfl) (Nat.le_of_ble_eq_true rfl) h
set_option maxHeartbeats 4000000 in
set_option maxRecDepth 100000 in
theorem ctX11_call {X : Cx_} {this : Nat} {a1 : Int32} {M : Mm} {post : Int32 → Mm → Prop} (h : PX11_call this a1 M post) : CT X mX11_call rX11_call [.inr (.inr (some this)), .inl a1] M (pI_ post) := by
  unfold PX11_call at h
  refine CT.of (by decide +kernel) (Nat.le_of_ble_eq_true rfl) ?_
  show VV X mX11_call rX11_call (pI_ post) 0 [(0, .inr (.inr (some this))), (1, .inl a1)] [] M 0 0
  refine vv_aload_n (mi := mX11_call) (pc := 0) 0 dX11_call_0 rfl rfl ?_
  refine vv_iload_n (mi := mX11_call) (pc := 1) 1 dX11_call_1 rfl rfl ?_
  obtain ⟨ht1, h⟩ := h
  refine vv_callV (mi := mX11_call) (pc := 2) (rest := []) (As := [.inl a1]) (ctX11_isCall (X := X) h) dX11_call_2 rfl ht1 (Nat.le_of_ble_eq_true rfl) rfl mb_X11_isCall rfl ml_X11_233 im_X11_isCall se_X11_isCall ⟨(Nat.le_of_ble_eq_true rfl), (Nat.le_of_ble_eq_true rfl)⟩ ⟨(Nat.le_of_ble_eq_true rfl), (Nat.le_of_ble_eq_true rfl)⟩ (Nat.le_of_ble_eq_true rfl) rfl (kI_ (F := fun st M' => VV X mX11_call rX11_call (pI_ post) 5 [(0, .inr (.inr (some this))), (1, .inl a1)] st M' 0 0) (fun r2 M3 h => ?_))
  refine vv_if_ne (mi := mX11_call) (pc := 5) 11 dX11_call_5 rfl (fun c4 => ?_) (fun c4 => ?_)
  · replace h := h.1 c4
    refine vv_aload_n (mi := mX11_call) (pc := 11) 0 dX11_call_11 rfl rfl ?_
    obtain ⟨ht5, h⟩ := h
    refine vv_getR (mi := mX11_call) (pc := 12) 11 30 rfl ht5 fl_X11_90 (Nat.le_of_ble_eq_true rfl) dX11_call_12 ?_
    refine vv_iload_n (mi := mX11_call) (pc := 15) 1 dX11_call_15 rfl rfl ?_
    refine vv_iconst (mi := mX11_call) (pc := 16) 1 dX11_call_16 rfl ?_
    obtain ⟨aq6, hs7, h⟩ := h
    obtain ⟨ht8, h⟩ := h
    obtain ⟨hi9, h⟩ := h
    obtain ⟨M10, eM10⟩ : ∃ z : Mm, z = suI M3 aq6 (Int32.toNatClampNeg a1) 1 := ⟨_, rfl⟩
    replace h := h _ eM10
    refine vv_zast (mi := mX11_call) (pc := 17) (Or.inr rfl) hs7 ht8 hi9 dX11_call_17 eM10 ?_
    refine vv_aload_n (mi := mX11_call) (pc := 18) 0 dX11_call_18 rfl rfl ?_
    refine vv_getR (mi := mX11_call) (pc := 19) 11 25 rfl (tgI_ eM10 ht5) fl_X11_74 (Nat.le_of_ble_eq_true rfl) dX11_call_19 ?_
    refine vv_iload_n (mi := mX11_call) (pc := 22) 1 dX11_call_22 rfl rfl ?_
    refine vv_aload_n (mi := mX11_call) (pc := 23) 0 dX11_call_23 rfl rfl ?_
    refine vv_getI (mi := mX11_call) (pc := 24) 11 0 rfl (tgI_ eM10 ht5) fl_X11_114 (Nat.le_of_ble_eq_true rfl) dX11_call_24 ?_
    obtain ⟨aq11, hs12, h⟩ := h
    obtain ⟨ht13, h⟩ := h
    obtain ⟨hi14, h⟩ := h
    obtain ⟨M15, eM15⟩ : ∃ z : Mm, z = suI M10 aq11 (Int32.toNatClampNeg a1) (ddI M10 this 0) := ⟨_, rfl⟩
    replace h := h _ eM15
    refine vv_iast (mi := mX11_call) (pc := 27) hs12 ht13 hi14 dX11_call_27 eM15 ?_
    refine vv_aload_n (mi := mX11_call) (pc := 28) 0 dX11_call_28 rfl rfl ?_
    refine vv_getR (mi := mX11_call) (pc := 29) 11 26 rfl (tgI_ eM15 (tgI_ eM10 ht5)) fl_X11_77 (Nat.le_of_ble_eq_true rfl) dX11_call_29 ?_
    refine vv_iload_n (mi := mX11_call) (pc := 32) 1 dX11_call_32 rfl rfl ?_
    refine vv_iconst (mi := mX11_call) (pc := 33) 0 dX11_call_33 rfl ?_
    obtain ⟨aq16, hs17, h⟩ := h
    obtain ⟨ht18, h⟩ := h
    obtain ⟨hi19, h⟩ := h
    obtain ⟨M20, eM20⟩ : ∃ z : Mm, z = suI M15 aq16 (Int32.toNatClampNeg a1) 0 := ⟨_, rfl⟩
    replace h := h _ eM20
    refine vv_iast (mi := mX11_call) (pc := 34) hs17 ht18 hi19 dX11_call_34 eM20 ?_
    refine vv_aload_n (mi := mX11_call) (pc := 35) 0 dX11_call_35 rfl rfl ?_
    refine vv_getR (mi := mX11_call) (pc := 36) 11 28 rfl (tgI_ eM20 (tgI_ eM15 (tgI_ eM10 ht5))) fl_X11_83 (Nat.le_of_ble_eq_true rfl) dX11_call_36 ?_
    refine vv_iload_n (mi := mX11_call) (pc := 39) 1 dX11_call_39 rfl rfl ?_
    refine vv_iconst (mi := mX11_call) (pc := 40) (-1) dX11_call_40 rfl ?_
    obtain ⟨aq21, hs22, h⟩ := h
    obtain ⟨ht23, h⟩ := h
    obtain ⟨hi24, h⟩ := h
    obtain ⟨M25, eM25⟩ : ∃ z : Mm, z = suI M20 aq21 (Int32.toNatClampNeg a1) (-1) := ⟨_, rfl⟩
    replace h := h _ eM25
    refine vv_iast (mi := mX11_call) (pc := 41) hs22 ht23 hi24 dX11_call_41 eM25 ?_
    refine vv_aload_n (mi := mX11_call) (pc := 42) 0 dX11_call_42 rfl rfl ?_
    refine vv_getR (mi := mX11_call) (pc := 43) 11 29 rfl (tgI_ eM25 (tgI_ eM20 (tgI_ eM15 (tgI_ eM10 ht5)))) fl_X11_86 (Nat.le_of_ble_eq_true rfl) dX11_call_43 ?_
    refine vv_iload_n (mi := mX11_call) (pc := 46) 1 dX11_call_46 rfl rfl ?_
    refine vv_iconst (mi := mX11_call) (pc := 47) 0 dX11_call_47 rfl ?_
    obtain ⟨aq26, hs27, h⟩ := h
    obtain ⟨ht28, h⟩ := h
    obtain ⟨hi29, h⟩ := h
    obtain ⟨M30, eM30⟩ : ∃ z : Mm, z = suI M25 aq26 (Int32.toNatClampNeg a1) 0 := ⟨_, rfl⟩
    replace h := h _ eM30
    refine vv_zast (mi := mX11_call) (pc := 48) (Or.inl rfl) hs27 ht28 hi29 dX11_call_48 eM30 ?_
    refine vv_aload_n (mi := mX11_call) (pc := 49) 0 dX11_call_49 rfl rfl ?_
    refine vv_getI (mi := mX11_call) (pc := 50) 11 0 rfl (tgI_ eM30 (tgI_ eM25 (tgI_ eM20 (tgI_ eM15 (tgI_ eM10 ht5))))) fl_X11_114 (Nat.le_of_ble_eq_true rfl) dX11_call_50 ?_
    exact vv_iret (mi := mX11_call) (pc := 53) dX11_call_53 rfl (Nat.le_of_ble_eq_true rfl) (Nat.le_of_ble_eq_true rfl) h
  · replace h := h.2 c4
    refine vv_bipush (mi := mX11_call) (pc := 8) (-2) dX11_call_8 rfl ?_
    exact vv_iret (mi := mX11_call) (pc := 10) dX11_call_10 rfl (Nat.le_of_ble_eq_true rfl) (Nat.le_of_ble_eq_true rfl) h
set_option maxHeartbeats 4000000 in
set_option maxRecDepth 100000 in
theorem bX11_takeCall_12 {X : Cx_} {kb12 : Nat → Int32 → Int32 → Mm → Prop} {post : Mm → Prop} (hb12 : ∀ (this : Nat) (x1 : Int32) (x2 : Int32) (M : Mm), kb12 this x1 x2 M → VV X mX11_takeCall rX11_takeCall (pV_ post) 12 [(0, .inr (.inr (some this))), (1, .inl x1), (2, .inl x2)] [] M 0 0) {this : Nat} {x1 : Int32} {x2 : Int32} {M : Mm} (h : BX11_takeCall_12 kb12 post this x1 x2 M) : VV X mX11_takeCall rX11_takeCall (pV_ post) 12 [(0, .inr (.inr (some this))), (1, .inl x1), (2, .inl x2)] [] M 0 0 := by
  unfold BX11_takeCall_12 at h
  refine vv_iload_n (mi := mX11_takeCall) (pc := 12) 2 dX11_takeCall_12 rfl rfl ?_
  refine vv_aload_n (mi := mX11_takeCall) (pc := 13) 0 dX11_takeCall_13 rfl rfl ?_
  obtain ⟨ht7, h⟩ := h
  refine vv_getI (mi := mX11_takeCall) (pc := 14) 11 32 rfl ht7 fl_X11_236 (Nat.le_of_ble_eq_true rfl) dX11_takeCall_14 ?_
  refine vv_icmp_ge (mi := mX11_takeCall) (pc := 17) 43 dX11_takeCall_17 rfl (fun c8 => ?_) (fun c8 => ?_)
  · replace h := h.1 c8
    exact vv_vret (mi := mX11_takeCall) (pc := 43) dX11_takeCall_43 rfl (Nat.le_of_ble_eq_true rfl) (Nat.le_of_ble_eq_true rfl) h
  · replace h := h.2 c8
    refine vv_aload_n (mi := mX11_takeCall) (pc := 20) 0 dX11_takeCall_20 rfl rfl ?_
    refine vv_getR (mi := mX11_takeCall) (pc := 21) 11 31 rfl ht7 fl_X11_93 (Nat.le_of_ble_eq_true rfl) dX11_takeCall_21 ?_
    refine vv_iload_n (mi := mX11_takeCall) (pc := 24) 2 dX11_takeCall_24 rfl rfl ?_
    refine vv_aload_n (mi := mX11_takeCall) (pc := 25) 0 dX11_takeCall_25 rfl rfl ?_
    refine vv_getR (mi := mX11_takeCall) (pc := 26) 11 27 rfl ht7 fl_X11_80 (Nat.le_of_ble_eq_true rfl) dX11_takeCall_26 ?_
    refine vv_bipush (mi := mX11_takeCall) (pc := 29) 16 dX11_takeCall_29 rfl ?_
    refine vv_iload_n (mi := mX11_takeCall) (pc := 31) 1 dX11_takeCall_31 rfl rfl ?_
    refine vv_imul (mi := mX11_takeCall) (pc := 32) dX11_takeCall_32 ?_
    refine vv_iload_n (mi := mX11_takeCall) (pc := 33) 2 dX11_takeCall_33 rfl rfl ?_
    refine vv_iadd (mi := mX11_takeCall) (pc := 34) dX11_takeCall_34 ?_
    obtain ⟨aq9, hs10, h⟩ := h
    obtain ⟨ht11, h⟩ := h
    obtain ⟨hi12, h⟩ := h
    refine vv_iald (mi := mX11_takeCall) (pc := 35) hs10 ht11 hi12 dX11_takeCall_35 ?_
    obtain ⟨aq13, hs14, h⟩ := h
    obtain ⟨ht15, h⟩ := h
    obtain ⟨hi16, h⟩ := h
    obtain ⟨M17, eM17⟩ : ∃ z : Mm, z = suI M aq13 (Int32.toNatClampNeg x2) (ddI M aq9 (Int32.toNatClampNeg ((16 * x1) + x2))) := ⟨_, rfl⟩
    replace h := h _ eM17
    refine vv_iast (mi := mX11_takeCall) (pc := 36) hs14 ht15 hi16 dX11_takeCall_36 eM17 ?_
    refine vv_iinc (mi := mX11_takeCall) (pc := 37) (x2 + 1) 2 [(2, .inl (x2 + 1)), (0, .inr (.inr (some this))), (1, .inl x1)] dX11_takeCall_37 rfl rfl (Nat.le_of_ble_eq_true rfl) rfl ?_
    refine vv_goto (mi := mX11_takeCall) (pc := 40) 12 dX11_takeCall_40 rfl ?_
    refine vv_sub (mi := mX11_takeCall) [(0, .inr (.inr (some this))), (1, .inl x1), (2, .inl (x2 + 1))] [1, 2, 0] rfl ?_
    exact hb12 _ _ _ _ h
theorem loX11_takeCall_12 {X : Cx_}  {post : Mm → Prop}  : ∀ (fu : Nat) {this : Nat} {x1 : Int32} {x2 : Int32} {M : Mm}, DX11_takeCall_12  post fu this x1 x2 M → VV X mX11_takeCall rX11_takeCall (pV_ post) 12 [(0, .inr (.inr (some this))), (1, .inl x1), (2, .inl x2)] [] M 0 0
  | 0, _, _, _, _, h => False.elim h
  | fu + 1, _, _, _, _, h => bX11_takeCall_12 (fun this x1 x2 M h => loX11_takeCall_12  fu h) h
set_option maxHeartbeats 4000000 in
set_option maxRecDepth 100000 in
theorem ctX11_takeCall {X : Cx_} {this : Nat} {a1 : Int32} {M : Mm} {post : Mm → Prop} (h : PX11_takeCall this a1 M post) : CT X mX11_takeCall rX11_takeCall [.inr (.inr (some this)), .inl a1] M (pV_ post) := by
  unfold PX11_takeCall at h
  refine CT.of (by decide +kernel) (Nat.le_of_ble_eq_true rfl) ?_
  show VV X mX11_takeCall rX11_takeCall (pV_ post) 0 [(0, .inr (.inr (some this))), (1, .inl a1)] [] M 0 0
  refine vv_aload_n (mi := mX11_takeCall) (pc := 0) 0 dX11_takeCall_0 rfl rfl ?_
  refine vv_aload_n (mi := mX11_takeCall) (pc := 1) 0 dX11_takeCall_1 rfl rfl ?_
  obtain ⟨ht1, h⟩ := h
  refine vv_getR (mi := mX11_takeCall) (pc := 2) 11 26 rfl ht1 fl_X11_77 (Nat.le_of_ble_eq_true rfl) dX11_takeCall_2 ?_
  refine vv_iload_n (mi := mX11_takeCall) (pc := 5) 1 dX11_takeCall_5 rfl rfl ?_
  obtain ⟨aq2, hs3, h⟩ := h
  obtain ⟨ht4, h⟩ := h
  obtain ⟨hi5, h⟩ := h
  refine vv_iald (mi := mX11_takeCall) (pc := 6) hs3 ht4 hi5 dX11_takeCall_6 ?_
  obtain ⟨M6, eM6⟩ : ∃ z : Mm, z = suI M this 32 (ddI M aq2 (Int32.toNatClampNeg a1)) := ⟨_, rfl⟩
  replace h := h _ eM6
  refine vv_putI (mi := mX11_takeCall) (pc := 7) 11 32 rfl ht1 fq_X11_236 (fun q => by cases q) rfl (Nat.le_of_ble_eq_true rfl) dX11_takeCall_7 eM6 ?_
  refine vv_iconst (mi := mX11_takeCall) (pc := 10) 0 dX11_takeCall_10 rfl ?_
  refine vv_istore_n (mi := mX11_takeCall) (pc := 11) [(2, .inl 0), (0, .inr (.inr (some this))), (1, .inl a1)] dX11_takeCall_11 rfl (Nat.le_of_ble_eq_true rfl) rfl ?_
  refine vv_sub (mi := mX11_takeCall) [(0, .inr (.inr (some this))), (1, .inl a1), (2, .inl 0)] [1, 2, 0] rfl ?_
  obtain ⟨fu, h⟩ := h
  exact loX11_takeCall_12 (X := X)  fu h
set_option maxHeartbeats 4000000 in
set_option maxRecDepth 100000 in
theorem bX11_takeNumber_10 {X : Cx_} {kb10 : Nat → Int64 → Int32 → Mm → Prop} {post : Mm → Prop} (hb10 : ∀ (this : Nat) (x1 : Int64) (x3 : Int32) (M : Mm), kb10 this x1 x3 M → VV X mX11_takeNumber rX11_takeNumber (pV_ post) 10 [(0, .inr (.inr (some this))), (1, .inr (.inl x1)), (3, .inl x3)] [] M 0 0) {this : Nat} {x1 : Int64} {x3 : Int32} {M : Mm} (h : BX11_takeNumber_10 kb10 post this x1 x3 M) : VV X mX11_takeNumber rX11_takeNumber (pV_ post) 10 [(0, .inr (.inr (some this))), (1, .inr (.inl x1)), (3, .inl x3)] [] M 0 0 := by
  unfold BX11_takeNumber_10 at h
  refine vv_iload_n (mi := mX11_takeNumber) (pc := 10) 2 dX11_takeNumber_10 rfl rfl ?_
  refine vv_aload_n (mi := mX11_takeNumber) (pc := 11) 0 dX11_takeNumber_11 rfl rfl ?_
  obtain ⟨ht5, h⟩ := h
  refine vv_getI (mi := mX11_takeNumber) (pc := 12) 11 32 rfl ht5 fl_X11_236 (Nat.le_of_ble_eq_true rfl) dX11_takeNumber_12 ?_
  refine vv_icmp_ge (mi := mX11_takeNumber) (pc := 15) 35 dX11_takeNumber_15 rfl (fun c6 => ?_) (fun c6 => ?_)
  · replace h := h.1 c6
    exact vv_vret (mi := mX11_takeNumber) (pc := 35) dX11_takeNumber_35 rfl (Nat.le_of_ble_eq_true rfl) (Nat.le_of_ble_eq_true rfl) h
  · replace h := h.2 c6
    refine vv_aload_n (mi := mX11_takeNumber) (pc := 18) 0 dX11_takeNumber_18 rfl rfl ?_
    refine vv_getR (mi := mX11_takeNumber) (pc := 19) 11 31 rfl ht5 fl_X11_93 (Nat.le_of_ble_eq_true rfl) dX11_takeNumber_19 ?_
    refine vv_iload_n (mi := mX11_takeNumber) (pc := 22) 2 dX11_takeNumber_22 rfl rfl ?_
    refine vv_lload_n (mi := mX11_takeNumber) (pc := 23) 1 dX11_takeNumber_23 rfl rfl ?_
    refine vv_iload_n (mi := mX11_takeNumber) (pc := 24) 2 dX11_takeNumber_24 rfl rfl ?_
    refine vv_callS (mi := mX11_takeNumber) (pc := 25) (rest := [.inl x3, .inr (.inr (ddR M this 31))]) (As := [.inr (.inl x1), .inl x3]) (ctX11_figureAt (X := X) h) dX11_takeNumber_25 mb_X11_figureAt rfl ml_X11_183 sc_X11_figureAt ⟨(Nat.le_of_ble_eq_true rfl), (Nat.le_of_ble_eq_true rfl)⟩ ⟨(Nat.le_of_ble_eq_true rfl), (Nat.le_of_ble_eq_true rfl)⟩ (Nat.le_of_ble_eq_true rfl) rfl (kI_ (F := fun st M' => VV X mX11_takeNumber rX11_takeNumber (pV_ post) 28 [(0, .inr (.inr (some this))), (1, .inr (.inl x1)), (3, .inl x3)] st M' 0 0) (fun r7 M8 h => ?_))
    obtain ⟨aq9, hs10, h⟩ := h
    obtain ⟨ht11, h⟩ := h
    obtain ⟨hi12, h⟩ := h
    obtain ⟨M13, eM13⟩ : ∃ z : Mm, z = suI M8 aq9 (Int32.toNatClampNeg x3) r7 := ⟨_, rfl⟩
    replace h := h _ eM13
    refine vv_iast (mi := mX11_takeNumber) (pc := 28) hs10 ht11 hi12 dX11_takeNumber_28 eM13 ?_
    refine vv_iinc (mi := mX11_takeNumber) (pc := 29) (x3 + 1) 2 [(3, .inl (x3 + 1)), (0, .inr (.inr (some this))), (1, .inr (.inl x1))] dX11_takeNumber_29 rfl rfl (Nat.le_of_ble_eq_true rfl) rfl ?_
    refine vv_goto (mi := mX11_takeNumber) (pc := 32) 10 dX11_takeNumber_32 rfl ?_
    refine vv_sub (mi := mX11_takeNumber) [(0, .inr (.inr (some this))), (1, .inr (.inl x1)), (3, .inl (x3 + 1))] [1, 2, 0] rfl ?_
    exact hb10 _ _ _ _ h
theorem loX11_takeNumber_10 {X : Cx_}  {post : Mm → Prop}  : ∀ (fu : Nat) {this : Nat} {x1 : Int64} {x3 : Int32} {M : Mm}, DX11_takeNumber_10  post fu this x1 x3 M → VV X mX11_takeNumber rX11_takeNumber (pV_ post) 10 [(0, .inr (.inr (some this))), (1, .inr (.inl x1)), (3, .inl x3)] [] M 0 0
  | 0, _, _, _, _, h => False.elim h
  | fu + 1, _, _, _, _, h => bX11_takeNumber_10 (fun this x1 x3 M h => loX11_takeNumber_10  fu h) h
set_option maxHeartbeats 4000000 in
set_option maxRecDepth 100000 in
theorem ctX11_takeNumber {X : Cx_} {this : Nat} {a1 : Int64} {M : Mm} {post : Mm → Prop} (h : PX11_takeNumber this a1 M post) : CT X mX11_takeNumber rX11_takeNumber [.inr (.inr (some this)), .inr (.inl a1)] M (pV_ post) := by
  unfold PX11_takeNumber at h
  refine CT.of (by decide +kernel) (Nat.le_of_ble_eq_true rfl) ?_
  show VV X mX11_takeNumber rX11_takeNumber (pV_ post) 0 [(0, .inr (.inr (some this))), (1, .inr (.inl a1))] [] M 0 0
  refine vv_aload_n (mi := mX11_takeNumber) (pc := 0) 0 dX11_takeNumber_0 rfl rfl ?_
  refine vv_lload_n (mi := mX11_takeNumber) (pc := 1) 1 dX11_takeNumber_1 rfl rfl ?_
  refine vv_callS (mi := mX11_takeNumber) (pc := 2) (rest := [.inr (.inr (some this))]) (As := [.inr (.inl a1)]) (ctX11_figuresOf (X := X) h) dX11_takeNumber_2 mb_X11_figuresOf rfl ml_X11_122 sc_X11_figuresOf ⟨(Nat.le_of_ble_eq_true rfl), (Nat.le_of_ble_eq_true rfl)⟩ ⟨(Nat.le_of_ble_eq_true rfl), (Nat.le_of_ble_eq_true rfl)⟩ (Nat.le_of_ble_eq_true rfl) rfl (kI_ (F := fun st M' => VV X mX11_takeNumber rX11_takeNumber (pV_ post) 5 [(0, .inr (.inr (some this))), (1, .inr (.inl a1))] st M' 0 0) (fun r1 M2 h => ?_))
  obtain ⟨ht3, h⟩ := h
  obtain ⟨M4, eM4⟩ : ∃ z : Mm, z = suI M2 this 32 r1 := ⟨_, rfl⟩
  replace h := h _ eM4
  refine vv_putI (mi := mX11_takeNumber) (pc := 5) 11 32 rfl ht3 fq_X11_236 (fun q => by cases q) rfl (Nat.le_of_ble_eq_true rfl) dX11_takeNumber_5 eM4 ?_
  refine vv_iconst (mi := mX11_takeNumber) (pc := 8) 0 dX11_takeNumber_8 rfl ?_
  refine vv_istore_n (mi := mX11_takeNumber) (pc := 9) [(3, .inl 0), (0, .inr (.inr (some this))), (1, .inr (.inl a1))] dX11_takeNumber_9 rfl (Nat.le_of_ble_eq_true rfl) rfl ?_
  refine vv_sub (mi := mX11_takeNumber) [(0, .inr (.inr (some this))), (1, .inr (.inl a1)), (3, .inl 0)] [1, 2, 0] rfl ?_
  obtain ⟨fu, h⟩ := h
  exact loX11_takeNumber_10 (X := X)  fu h
set_option maxHeartbeats 4000000 in
set_option maxRecDepth 100000 in
theorem bX11_isBegun_2 {X : Cx_} {kb2 : Nat → Int32 → Int32 → Mm → Prop} {post : Int32 → Mm → Prop} (hb2 : ∀ (this : Nat) (x1 : Int32) (x2 : Int32) (M : Mm), kb2 this x1 x2 M → VV X mX11_isBegun rX11_isBegun (pI_ post) 2 [(0, .inr (.inr (some this))), (1, .inl x1), (2, .inl x2)] [] M 0 0) {this : Nat} {x1 : Int32} {x2 : Int32} {M : Mm} (h : BX11_isBegun_2 kb2 post this x1 x2 M) : VV X mX11_isBegun rX11_isBegun (pI_ post) 2 [(0, .inr (.inr (some this))), (1, .inl x1), (2, .inl x2)] [] M 0 0 := by
  unfold BX11_isBegun_2 at h
  refine vv_iload_n (mi := mX11_isBegun) (pc := 2) 2 dX11_isBegun_2 rfl rfl ?_
  refine vv_aload_n (mi := mX11_isBegun) (pc := 3) 0 dX11_isBegun_3 rfl rfl ?_
  obtain ⟨ht1, h⟩ := h
  refine vv_getI (mi := mX11_isBegun) (pc := 4) 11 32 rfl ht1 fl_X11_236 (Nat.le_of_ble_eq_true rfl) dX11_isBegun_4 ?_
  refine vv_icmp_ge (mi := mX11_isBegun) (pc := 7) 36 dX11_isBegun_7 rfl (fun c2 => ?_) (fun c2 => ?_)
  · replace h := h.1 c2
    refine vv_iconst (mi := mX11_isBegun) (pc := 36) 1 dX11_isBegun_36 rfl ?_
    exact vv_zret (mi := mX11_isBegun) (pc := 37) dX11_isBegun_37 rfl (Or.inr rfl) (Nat.le_of_ble_eq_true rfl) (Nat.le_of_ble_eq_true rfl) h
  · replace h := h.2 c2
    refine vv_aload_n (mi := mX11_isBegun) (pc := 10) 0 dX11_isBegun_10 rfl rfl ?_
    refine vv_iload_n (mi := mX11_isBegun) (pc := 11) 1 dX11_isBegun_11 rfl rfl ?_
    refine vv_iload_n (mi := mX11_isBegun) (pc := 12) 2 dX11_isBegun_12 rfl rfl ?_
    refine vv_callV (mi := mX11_isBegun) (pc := 13) (rest := []) (As := [.inl x1, .inl x2]) (ctX11_may (X := X) h) dX11_isBegun_13 rfl ht1 (Nat.le_of_ble_eq_true rfl) rfl mb_X11_may rfl ml_X11_187 im_X11_may se_X11_may ⟨(Nat.le_of_ble_eq_true rfl), (Nat.le_of_ble_eq_true rfl)⟩ ⟨(Nat.le_of_ble_eq_true rfl), (Nat.le_of_ble_eq_true rfl)⟩ (Nat.le_of_ble_eq_true rfl) rfl (kI_ (F := fun st M' => VV X mX11_isBegun rX11_isBegun (pI_ post) 16 [(0, .inr (.inr (some this))), (1, .inl x1), (2, .inl x2)] st M' 0 0) (fun r3 M4 h => ?_))
    refine vv_aload_n (mi := mX11_isBegun) (pc := 16) 0 dX11_isBegun_16 rfl rfl ?_
    obtain ⟨ht5, h⟩ := h
    refine vv_getR (mi := mX11_isBegun) (pc := 17) 11 31 rfl ht5 fl_X11_93 (Nat.le_of_ble_eq_true rfl) dX11_isBegun_17 ?_
    refine vv_iload_n (mi := mX11_isBegun) (pc := 20) 2 dX11_isBegun_20 rfl rfl ?_
    obtain ⟨aq6, hs7, h⟩ := h
    obtain ⟨ht8, h⟩ := h
    obtain ⟨hi9, h⟩ := h
    refine vv_iald (mi := mX11_isBegun) (pc := 21) hs7 ht8 hi9 dX11_isBegun_21 ?_
    refine vv_ishr (mi := mX11_isBegun) (pc := 22) dX11_isBegun_22 ?_
    refine vv_iconst (mi := mX11_isBegun) (pc := 23) 1 dX11_isBegun_23 rfl ?_
    refine vv_iand (mi := mX11_isBegun) (pc := 24) dX11_isBegun_24 ?_
    refine vv_if_ne (mi := mX11_isBegun) (pc := 25) 30 dX11_isBegun_25 rfl (fun c10 => ?_) (fun c10 => ?_)
    · replace h := h.1 c10
      refine vv_iinc (mi := mX11_isBegun) (pc := 30) (x2 + 1) 2 [(2, .inl (x2 + 1)), (0, .inr (.inr (some this))), (1, .inl x1)] dX11_isBegun_30 rfl rfl (Nat.le_of_ble_eq_true rfl) rfl ?_
      refine vv_goto (mi := mX11_isBegun) (pc := 33) 2 dX11_isBegun_33 rfl ?_
      refine vv_sub (mi := mX11_isBegun) [(0, .inr (.inr (some this))), (1, .inl x1), (2, .inl (x2 + 1))] [1, 2, 0] rfl ?_
      exact hb2 _ _ _ _ h
    · replace h := h.2 c10
      refine vv_iconst (mi := mX11_isBegun) (pc := 28) 0 dX11_isBegun_28 rfl ?_
      exact vv_zret (mi := mX11_isBegun) (pc := 29) dX11_isBegun_29 rfl (Or.inl rfl) (Nat.le_of_ble_eq_true rfl) (Nat.le_of_ble_eq_true rfl) h
theorem loX11_isBegun_2 {X : Cx_}  {post : Int32 → Mm → Prop}  : ∀ (fu : Nat) {this : Nat} {x1 : Int32} {x2 : Int32} {M : Mm}, DX11_isBegun_2  post fu this x1 x2 M → VV X mX11_isBegun rX11_isBegun (pI_ post) 2 [(0, .inr (.inr (some this))), (1, .inl x1), (2, .inl x2)] [] M 0 0
  | 0, _, _, _, _, h => False.elim h
  | fu + 1, _, _, _, _, h => bX11_isBegun_2 (fun this x1 x2 M h => loX11_isBegun_2  fu h) h
set_option maxHeartbeats 4000000 in
set_option maxRecDepth 100000 in
theorem ctX11_isBegun {X : Cx_} {this : Nat} {a1 : Int32} {M : Mm} {post : Int32 → Mm → Prop} (h : PX11_isBegun this a1 M post) : CT X mX11_isBegun rX11_isBegun [.inr (.inr (some this)), .inl a1] M (pI_ post) := by
  unfold PX11_isBegun at h
  refine CT.of (by decide +kernel) (Nat.le_of_ble_eq_true rfl) ?_
  show VV X mX11_isBegun rX11_isBegun (pI_ post) 0 [(0, .inr (.inr (some this))), (1, .inl a1)] [] M 0 0
  refine vv_iconst (mi := mX11_isBegun) (pc := 0) 0 dX11_isBegun_0 rfl ?_
  refine vv_istore_n (mi := mX11_isBegun) (pc := 1) [(2, .inl 0), (0, .inr (.inr (some this))), (1, .inl a1)] dX11_isBegun_1 rfl (Nat.le_of_ble_eq_true rfl) rfl ?_
  refine vv_sub (mi := mX11_isBegun) [(0, .inr (.inr (some this))), (1, .inl a1), (2, .inl 0)] [1, 2, 0] rfl ?_
  obtain ⟨fu, h⟩ := h
  exact loX11_isBegun_2 (X := X)  fu h
set_option maxHeartbeats 4000000 in
set_option maxRecDepth 100000 in
theorem ctX11_isNumber {X : Cx_} {this : Nat} {a1 : Int32} {M : Mm} {post : Int32 → Mm → Prop} (h : PX11_isNumber this a1 M post) : CT X mX11_isNumber rX11_isNumber [.inr (.inr (some this)), .inl a1] M (pI_ post) := by
  unfold PX11_isNumber at h
  refine CT.of (by decide +kernel) (Nat.le_of_ble_eq_true rfl) ?_
  show VV X mX11_isNumber rX11_isNumber (pI_ post) 0 [(0, .inr (.inr (some this))), (1, .inl a1)] [] M 0 0
  refine vv_aload_n (mi := mX11_isNumber) (pc := 0) 0 dX11_isNumber_0 rfl rfl ?_
  obtain ⟨ht1, h⟩ := h
  refine vv_getI (mi := mX11_isNumber) (pc := 1) 11 32 rfl ht1 fl_X11_236 (Nat.le_of_ble_eq_true rfl) dX11_isNumber_1 ?_
  refine vv_i2l (mi := mX11_isNumber) (pc := 4) dX11_isNumber_4 ?_
  refine vv_aload_n (mi := mX11_isNumber) (pc := 5) 0 dX11_isNumber_5 rfl rfl ?_
  refine vv_getR (mi := mX11_isNumber) (pc := 6) 11 6 rfl ht1 fl_X11_22 (Nat.le_of_ble_eq_true rfl) dX11_isNumber_6 ?_
  refine vv_iload_n (mi := mX11_isNumber) (pc := 9) 1 dX11_isNumber_9 rfl rfl ?_
  obtain ⟨aq2, hs3, h⟩ := h
  obtain ⟨ht4, h⟩ := h
  obtain ⟨hi5, h⟩ := h
  refine vv_iald (mi := mX11_isNumber) (pc := 10) hs3 ht4 hi5 dX11_isNumber_10 ?_
  refine vv_i2l (mi := mX11_isNumber) (pc := 11) dX11_isNumber_11 ?_
  refine vv_aload_n (mi := mX11_isNumber) (pc := 12) 0 dX11_isNumber_12 rfl rfl ?_
  refine vv_getR (mi := mX11_isNumber) (pc := 13) 11 7 rfl ht1 fl_X11_25 (Nat.le_of_ble_eq_true rfl) dX11_isNumber_13 ?_
  refine vv_iload_n (mi := mX11_isNumber) (pc := 16) 1 dX11_isNumber_16 rfl rfl ?_
  obtain ⟨aq6, hs7, h⟩ := h
  obtain ⟨ht8, h⟩ := h
  obtain ⟨hi9, h⟩ := h
  refine vv_iald (mi := mX11_isNumber) (pc := 17) hs7 ht8 hi9 dX11_isNumber_17 ?_
  refine vv_i2l (mi := mX11_isNumber) (pc := 18) dX11_isNumber_18 ?_
  refine vv_callS (mi := mX11_isNumber) (pc := 19) (rest := []) (As := [.inr (.inl (Int32.toInt64 (ddI M this 32))), .inr (.inl (Int32.toInt64 (ddI M aq2 (Int32.toNatClampNeg a1)))), .inr (.inl (Int32.toInt64 (ddI M aq6 (Int32.toNatClampNeg a1))))]) (ctX11_in (X := X) h) dX11_isNumber_19 mb_X11_in rfl ml_X11_110 sc_X11_in ⟨(Nat.le_of_ble_eq_true rfl), (Nat.le_of_ble_eq_true rfl)⟩ ⟨(Nat.le_of_ble_eq_true rfl), (Nat.le_of_ble_eq_true rfl)⟩ (Nat.le_of_ble_eq_true rfl) rfl (kI_ (F := fun st M' => VV X mX11_isNumber rX11_isNumber (pI_ post) 22 [(0, .inr (.inr (some this))), (1, .inl a1)] st M' 0 0) (fun r10 M11 h => ?_))
  refine vv_if_eq (mi := mX11_isNumber) (pc := 22) 37 dX11_isNumber_22 rfl (fun c12 => ?_) (fun c12 => ?_)
  · replace h := h.1 c12
    refine vv_iconst (mi := mX11_isNumber) (pc := 37) 0 dX11_isNumber_37 rfl ?_
    exact vv_zret (mi := mX11_isNumber) (pc := 38) dX11_isNumber_38 rfl (Or.inl rfl) (Nat.le_of_ble_eq_true rfl) (Nat.le_of_ble_eq_true rfl) h
  · replace h := h.2 c12
    refine vv_aload_n (mi := mX11_isNumber) (pc := 25) 0 dX11_isNumber_25 rfl rfl ?_
    refine vv_iload_n (mi := mX11_isNumber) (pc := 26) 1 dX11_isNumber_26 rfl rfl ?_
    obtain ⟨ht13, h⟩ := h
    refine vv_callV (mi := mX11_isNumber) (pc := 27) (rest := []) (As := [.inl a1]) (ctX11_isBegun (X := X) h) dX11_isNumber_27 rfl ht13 (Nat.le_of_ble_eq_true rfl) rfl mb_X11_isBegun rfl ml_X11_239 im_X11_isBegun se_X11_isBegun ⟨(Nat.le_of_ble_eq_true rfl), (Nat.le_of_ble_eq_true rfl)⟩ ⟨(Nat.le_of_ble_eq_true rfl), (Nat.le_of_ble_eq_true rfl)⟩ (Nat.le_of_ble_eq_true rfl) rfl (kI_ (F := fun st M' => VV X mX11_isNumber rX11_isNumber (pI_ post) 30 [(0, .inr (.inr (some this))), (1, .inl a1)] st M' 0 0) (fun r14 M15 h => ?_))
    refine vv_if_eq (mi := mX11_isNumber) (pc := 30) 37 dX11_isNumber_30 rfl (fun c16 => ?_) (fun c16 => ?_)
    · replace h := h.1 c16
      refine vv_iconst (mi := mX11_isNumber) (pc := 37) 0 dX11_isNumber_37 rfl ?_
      exact vv_zret (mi := mX11_isNumber) (pc := 38) dX11_isNumber_38 rfl (Or.inl rfl) (Nat.le_of_ble_eq_true rfl) (Nat.le_of_ble_eq_true rfl) h
    · replace h := h.2 c16
      refine vv_iconst (mi := mX11_isNumber) (pc := 33) 1 dX11_isNumber_33 rfl ?_
      refine vv_goto (mi := mX11_isNumber) (pc := 34) 38 dX11_isNumber_34 rfl ?_
      exact vv_zret (mi := mX11_isNumber) (pc := 38) dX11_isNumber_38 rfl (Or.inr rfl) (Nat.le_of_ble_eq_true rfl) (Nat.le_of_ble_eq_true rfl) h
set_option maxHeartbeats 4000000 in
set_option maxRecDepth 100000 in
theorem ctX11_goesOn {X : Cx_} {this : Nat} {a1 : Int32} {M : Mm} {post : Int32 → Mm → Prop} (h : PX11_goesOn this a1 M post) : CT X mX11_goesOn rX11_goesOn [.inr (.inr (some this)), .inl a1] M (pI_ post) := by
  unfold PX11_goesOn at h
  refine CT.of (by decide +kernel) (Nat.le_of_ble_eq_true rfl) ?_
  show VV X mX11_goesOn rX11_goesOn (pI_ post) 0 [(0, .inr (.inr (some this))), (1, .inl a1)] [] M 0 0
  refine vv_aload_n (mi := mX11_goesOn) (pc := 0) 0 dX11_goesOn_0 rfl rfl ?_
  obtain ⟨ht1, h⟩ := h
  refine vv_getR (mi := mX11_goesOn) (pc := 1) 11 7 rfl ht1 fl_X11_25 (Nat.le_of_ble_eq_true rfl) dX11_goesOn_1 ?_
  refine vv_iload_n (mi := mX11_goesOn) (pc := 4) 1 dX11_goesOn_4 rfl rfl ?_
  obtain ⟨aq2, hs3, h⟩ := h
  obtain ⟨ht4, h⟩ := h
  obtain ⟨hi5, h⟩ := h
  refine vv_iald (mi := mX11_goesOn) (pc := 5) hs3 ht4 hi5 dX11_goesOn_5 ?_
  refine vv_aload_n (mi := mX11_goesOn) (pc := 6) 0 dX11_goesOn_6 rfl rfl ?_
  refine vv_getI (mi := mX11_goesOn) (pc := 7) 11 32 rfl ht1 fl_X11_236 (Nat.le_of_ble_eq_true rfl) dX11_goesOn_7 ?_
  refine vv_icmp_le (mi := mX11_goesOn) (pc := 10) 25 dX11_goesOn_10 rfl (fun c6 => ?_) (fun c6 => ?_)
  · replace h := h.1 c6
    refine vv_iconst (mi := mX11_goesOn) (pc := 25) 0 dX11_goesOn_25 rfl ?_
    exact vv_zret (mi := mX11_goesOn) (pc := 26) dX11_goesOn_26 rfl (Or.inl rfl) (Nat.le_of_ble_eq_true rfl) (Nat.le_of_ble_eq_true rfl) h
  · replace h := h.2 c6
    refine vv_aload_n (mi := mX11_goesOn) (pc := 13) 0 dX11_goesOn_13 rfl rfl ?_
    refine vv_iload_n (mi := mX11_goesOn) (pc := 14) 1 dX11_goesOn_14 rfl rfl ?_
    refine vv_callV (mi := mX11_goesOn) (pc := 15) (rest := []) (As := [.inl a1]) (ctX11_isBegun (X := X) h) dX11_goesOn_15 rfl ht1 (Nat.le_of_ble_eq_true rfl) rfl mb_X11_isBegun rfl ml_X11_239 im_X11_isBegun se_X11_isBegun ⟨(Nat.le_of_ble_eq_true rfl), (Nat.le_of_ble_eq_true rfl)⟩ ⟨(Nat.le_of_ble_eq_true rfl), (Nat.le_of_ble_eq_true rfl)⟩ (Nat.le_of_ble_eq_true rfl) rfl (kI_ (F := fun st M' => VV X mX11_goesOn rX11_goesOn (pI_ post) 18 [(0, .inr (.inr (some this))), (1, .inl a1)] st M' 0 0) (fun r7 M8 h => ?_))
    refine vv_if_eq (mi := mX11_goesOn) (pc := 18) 25 dX11_goesOn_18 rfl (fun c9 => ?_) (fun c9 => ?_)
    · replace h := h.1 c9
      refine vv_iconst (mi := mX11_goesOn) (pc := 25) 0 dX11_goesOn_25 rfl ?_
      exact vv_zret (mi := mX11_goesOn) (pc := 26) dX11_goesOn_26 rfl (Or.inl rfl) (Nat.le_of_ble_eq_true rfl) (Nat.le_of_ble_eq_true rfl) h
    · replace h := h.2 c9
      refine vv_iconst (mi := mX11_goesOn) (pc := 21) 1 dX11_goesOn_21 rfl ?_
      refine vv_goto (mi := mX11_goesOn) (pc := 22) 26 dX11_goesOn_22 rfl ?_
      exact vv_zret (mi := mX11_goesOn) (pc := 26) dX11_goesOn_26 rfl (Or.inr rfl) (Nat.le_of_ble_eq_true rfl) (Nat.le_of_ble_eq_true rfl) h
set_option maxHeartbeats 4000000 in
set_option maxRecDepth 100000 in
theorem bX11_answer_47 {X : Cx_} {kb7 : Nat → Int32 → Int32 → Int32 → Int32 → Mm → Prop} {post : Int32 → Mm → Prop} (hb7 : ∀ (this : Nat) (x1 : Int32) (x2 : Int32) (x3 : Int32) (x4 : Int32) (M : Mm), kb7 this x1 x2 x3 x4 M → VV X mX11_answer rX11_answer (pI_ post) 7 [(0, .inr (.inr (some this))), (1, .inl x1), (2, .inl x2), (3, .inl x3), (4, .inl x4)] [] M 0 0) {this : Nat} {x1 : Int32} {x3 : Int32} {x4 : Int32} {s0 : Int32} {M : Mm} (h : BX11_answer_47 kb7 post this x1 x3 x4 s0 M) : VV X mX11_answer rX11_answer (pI_ post) 47 [(0, .inr (.inr (some this))), (1, .inl x1), (3, .inl x3), (4, .inl x4)] [.inl s0] M 0 0 := by
  unfold BX11_answer_47 at h
  refine vv_istore_n (mi := mX11_answer) (pc := 47) [(2, .inl s0), (0, .inr (.inr (some this))), (1, .inl x1), (3, .inl x3), (4, .inl x4)] dX11_answer_47 rfl (Nat.le_of_ble_eq_true rfl) rfl ?_
  refine vv_iload_n (mi := mX11_answer) (pc := 48) 3 dX11_answer_48 rfl rfl ?_
  refine vv_if_ne (mi := mX11_answer) (pc := 49) 61 dX11_answer_49 rfl (fun c14 => ?_) (fun c14 => ?_)
  · replace h := h.1 c14
    refine vv_iconst (mi := mX11_answer) (pc := 61) 1 dX11_answer_61 rfl ?_
    refine vv_goto (mi := mX11_answer) (pc := 62) 66 dX11_answer_62 rfl ?_
    refine vv_istore_n (mi := mX11_answer) (pc := 66) [(3, .inl 1), (2, .inl s0), (0, .inr (.inr (some this))), (1, .inl x1), (4, .inl x4)] dX11_answer_66 rfl (Nat.le_of_ble_eq_true rfl) rfl ?_
    refine vv_iinc (mi := mX11_answer) (pc := 67) (x4 + 1) 4 [(4, .inl (x4 + 1)), (3, .inl 1), (2, .inl s0), (0, .inr (.inr (some this))), (1, .inl x1)] dX11_answer_67 rfl rfl (Nat.le_of_ble_eq_true rfl) rfl ?_
    refine vv_goto (mi := mX11_answer) (pc := 70) 7 dX11_answer_70 rfl ?_
    refine vv_sub (mi := mX11_answer) [(0, .inr (.inr (some this))), (1, .inl x1), (2, .inl s0), (3, .inl 1), (4, .inl (x4 + 1))] [3, 4, 2, 1, 0] rfl ?_
    exact hb7 _ _ _ _ _ _ h
  · replace h := h.2 c14
    refine vv_aload_n (mi := mX11_answer) (pc := 52) 1 dX11_answer_52 rfl rfl ?_
    refine vv_iload (mi := mX11_answer) (pc := 53) 4 dX11_answer_53 rfl ?_
    obtain ⟨ht15, h⟩ := h
    refine vv_callV (mi := mX11_answer) (pc := 55) (rest := []) (As := [.inl x4]) (ctX11_goesOn (X := X) h) dX11_answer_55 rfl ht15 (Nat.le_of_ble_eq_true rfl) rfl mb_X11_goesOn rfl ml_X11_245 im_X11_goesOn se_X11_goesOn ⟨(Nat.le_of_ble_eq_true rfl), (Nat.le_of_ble_eq_true rfl)⟩ ⟨(Nat.le_of_ble_eq_true rfl), (Nat.le_of_ble_eq_true rfl)⟩ (Nat.le_of_ble_eq_true rfl) rfl (kI_ (F := fun st M' => VV X mX11_answer rX11_answer (pI_ post) 58 [(2, .inl s0), (0, .inr (.inr (some this))), (1, .inl x1), (3, .inl x3), (4, .inl x4)] st M' 0 0) (fun r16 M17 h => ?_))
    refine vv_if_eq (mi := mX11_answer) (pc := 58) 65 dX11_answer_58 rfl (fun c18 => ?_) (fun c18 => ?_)
    · replace h := h.1 c18
      refine vv_iconst (mi := mX11_answer) (pc := 65) 0 dX11_answer_65 rfl ?_
      refine vv_istore_n (mi := mX11_answer) (pc := 66) [(3, .inl 0), (2, .inl s0), (0, .inr (.inr (some this))), (1, .inl x1), (4, .inl x4)] dX11_answer_66 rfl (Nat.le_of_ble_eq_true rfl) rfl ?_
      refine vv_iinc (mi := mX11_answer) (pc := 67) (x4 + 1) 4 [(4, .inl (x4 + 1)), (3, .inl 0), (2, .inl s0), (0, .inr (.inr (some this))), (1, .inl x1)] dX11_answer_67 rfl rfl (Nat.le_of_ble_eq_true rfl) rfl ?_
      refine vv_goto (mi := mX11_answer) (pc := 70) 7 dX11_answer_70 rfl ?_
      refine vv_sub (mi := mX11_answer) [(0, .inr (.inr (some this))), (1, .inl x1), (2, .inl s0), (3, .inl 0), (4, .inl (x4 + 1))] [3, 4, 2, 1, 0] rfl ?_
      exact hb7 _ _ _ _ _ _ h
    · replace h := h.2 c18
      refine vv_iconst (mi := mX11_answer) (pc := 61) 1 dX11_answer_61 rfl ?_
      refine vv_goto (mi := mX11_answer) (pc := 62) 66 dX11_answer_62 rfl ?_
      refine vv_istore_n (mi := mX11_answer) (pc := 66) [(3, .inl 1), (2, .inl s0), (0, .inr (.inr (some this))), (1, .inl x1), (4, .inl x4)] dX11_answer_66 rfl (Nat.le_of_ble_eq_true rfl) rfl ?_
      refine vv_iinc (mi := mX11_answer) (pc := 67) (x4 + 1) 4 [(4, .inl (x4 + 1)), (3, .inl 1), (2, .inl s0), (0, .inr (.inr (some this))), (1, .inl x1)] dX11_answer_67 rfl rfl (Nat.le_of_ble_eq_true rfl) rfl ?_
      refine vv_goto (mi := mX11_answer) (pc := 70) 7 dX11_answer_70 rfl ?_
      refine vv_sub (mi := mX11_answer) [(0, .inr (.inr (some this))), (1, .inl x1), (2, .inl s0), (3, .inl 1), (4, .inl (x4 + 1))] [3, 4, 2, 1, 0] rfl ?_
      exact hb7 _ _ _ _ _ _ h
set_option maxHeartbeats 4000000 in
set_option maxRecDepth 100000 in
theorem bX11_answer_7 {X : Cx_} {kb7 : Nat → Int32 → Int32 → Int32 → Int32 → Mm → Prop} {post : Int32 → Mm → Prop} (hb7 : ∀ (this : Nat) (x1 : Int32) (x2 : Int32) (x3 : Int32) (x4 : Int32) (M : Mm), kb7 this x1 x2 x3 x4 M → VV X mX11_answer rX11_answer (pI_ post) 7 [(0, .inr (.inr (some this))), (1, .inl x1), (2, .inl x2), (3, .inl x3), (4, .inl x4)] [] M 0 0) {this : Nat} {x1 : Int32} {x2 : Int32} {x3 : Int32} {x4 : Int32} {M : Mm} (h : BX11_answer_7 kb7 post this x1 x2 x3 x4 M) : VV X mX11_answer rX11_answer (pI_ post) 7 [(0, .inr (.inr (some this))), (1, .inl x1), (2, .inl x2), (3, .inl x3), (4, .inl x4)] [] M 0 0 := by
  unfold BX11_answer_7 at h
  refine vv_iload (mi := mX11_answer) (pc := 7) 4 dX11_answer_7 rfl ?_
  refine vv_aload_n (mi := mX11_answer) (pc := 9) 0 dX11_answer_9 rfl rfl ?_
  obtain ⟨ht1, h⟩ := h
  refine vv_getI (mi := mX11_answer) (pc := 10) 11 1 rfl ht1 fl_X11_130 (Nat.le_of_ble_eq_true rfl) dX11_answer_10 ?_
  refine vv_icmp_ge (mi := mX11_answer) (pc := 13) 73 dX11_answer_13 rfl (fun c2 => ?_) (fun c2 => ?_)
  · replace h := h.1 c2
    refine vv_iload_n (mi := mX11_answer) (pc := 73) 2 dX11_answer_73 rfl rfl ?_
    refine vv_if_eq (mi := mX11_answer) (pc := 74) 89 dX11_answer_74 rfl (fun c3 => ?_) (fun c3 => ?_)
    · replace h := h.1 c3
      refine vv_iload_n (mi := mX11_answer) (pc := 89) 3 dX11_answer_89 rfl rfl ?_
      refine vv_if_eq (mi := mX11_answer) (pc := 90) 97 dX11_answer_90 rfl (fun c4 => ?_) (fun c4 => ?_)
      · replace h := h.1 c4
        refine vv_iconst (mi := mX11_answer) (pc := 97) 3 dX11_answer_97 rfl ?_
        exact vv_iret (mi := mX11_answer) (pc := 98) dX11_answer_98 rfl (Nat.le_of_ble_eq_true rfl) (Nat.le_of_ble_eq_true rfl) h
      · replace h := h.2 c4
        refine vv_iconst (mi := mX11_answer) (pc := 93) 0 dX11_answer_93 rfl ?_
        refine vv_goto (mi := mX11_answer) (pc := 94) 98 dX11_answer_94 rfl ?_
        exact vv_iret (mi := mX11_answer) (pc := 98) dX11_answer_98 rfl (Nat.le_of_ble_eq_true rfl) (Nat.le_of_ble_eq_true rfl) h
    · replace h := h.2 c3
      refine vv_iload_n (mi := mX11_answer) (pc := 77) 3 dX11_answer_77 rfl rfl ?_
      refine vv_if_eq (mi := mX11_answer) (pc := 78) 85 dX11_answer_78 rfl (fun c5 => ?_) (fun c5 => ?_)
      · replace h := h.1 c5
        refine vv_iconst (mi := mX11_answer) (pc := 85) 1 dX11_answer_85 rfl ?_
        refine vv_goto (mi := mX11_answer) (pc := 86) 98 dX11_answer_86 rfl ?_
        exact vv_iret (mi := mX11_answer) (pc := 98) dX11_answer_98 rfl (Nat.le_of_ble_eq_true rfl) (Nat.le_of_ble_eq_true rfl) h
      · replace h := h.2 c5
        refine vv_iconst (mi := mX11_answer) (pc := 81) 2 dX11_answer_81 rfl ?_
        refine vv_goto (mi := mX11_answer) (pc := 82) 98 dX11_answer_82 rfl ?_
        exact vv_iret (mi := mX11_answer) (pc := 98) dX11_answer_98 rfl (Nat.le_of_ble_eq_true rfl) (Nat.le_of_ble_eq_true rfl) h
  · replace h := h.2 c2
    refine vv_aload_n (mi := mX11_answer) (pc := 16) 0 dX11_answer_16 rfl rfl ?_
    refine vv_iload (mi := mX11_answer) (pc := 17) 4 dX11_answer_17 rfl ?_
    refine vv_iload_n (mi := mX11_answer) (pc := 19) 1 dX11_answer_19 rfl rfl ?_
    refine vv_callV (mi := mX11_answer) (pc := 20) (rest := []) (As := [.inl x4, .inl x1]) (ctX11_isForce (X := X) h) dX11_answer_20 rfl ht1 (Nat.le_of_ble_eq_true rfl) rfl mb_X11_isForce rfl ml_X11_197 im_X11_isForce se_X11_isForce ⟨(Nat.le_of_ble_eq_true rfl), (Nat.le_of_ble_eq_true rfl)⟩ ⟨(Nat.le_of_ble_eq_true rfl), (Nat.le_of_ble_eq_true rfl)⟩ (Nat.le_of_ble_eq_true rfl) rfl (kI_ (F := fun st M' => VV X mX11_answer rX11_answer (pI_ post) 23 [(0, .inr (.inr (some this))), (1, .inl x1), (2, .inl x2), (3, .inl x3), (4, .inl x4)] st M' 0 0) (fun r6 M7 h => ?_))
    refine vv_if_ne (mi := mX11_answer) (pc := 23) 29 dX11_answer_23 rfl (fun c8 => ?_) (fun c8 => ?_)
    · replace h := h.1 c8
      refine vv_iload_n (mi := mX11_answer) (pc := 29) 2 dX11_answer_29 rfl rfl ?_
      refine vv_if_ne (mi := mX11_answer) (pc := 30) 42 dX11_answer_30 rfl (fun c9 => ?_) (fun c9 => ?_)
      · replace h := h.1 c9
        refine vv_iconst (mi := mX11_answer) (pc := 42) 1 dX11_answer_42 rfl ?_
        refine vv_goto (mi := mX11_answer) (pc := 43) 47 dX11_answer_43 rfl ?_
        refine vv_sub (mi := mX11_answer) [(0, .inr (.inr (some this))), (1, .inl x1), (3, .inl x3), (4, .inl x4)] [0, 1, 3, 4] rfl ?_
        exact bX11_answer_47 (X := X) hb7 h
      · replace h := h.2 c9
        refine vv_aload_n (mi := mX11_answer) (pc := 33) 0 dX11_answer_33 rfl rfl ?_
        refine vv_iload (mi := mX11_answer) (pc := 34) 4 dX11_answer_34 rfl ?_
        obtain ⟨ht10, h⟩ := h
        refine vv_callV (mi := mX11_answer) (pc := 36) (rest := []) (As := [.inl x4]) (ctX11_isNumber (X := X) h) dX11_answer_36 rfl ht10 (Nat.le_of_ble_eq_true rfl) rfl mb_X11_isNumber rfl ml_X11_242 im_X11_isNumber se_X11_isNumber ⟨(Nat.le_of_ble_eq_true rfl), (Nat.le_of_ble_eq_true rfl)⟩ ⟨(Nat.le_of_ble_eq_true rfl), (Nat.le_of_ble_eq_true rfl)⟩ (Nat.le_of_ble_eq_true rfl) rfl (kI_ (F := fun st M' => VV X mX11_answer rX11_answer (pI_ post) 39 [(0, .inr (.inr (some this))), (1, .inl x1), (2, .inl x2), (3, .inl x3), (4, .inl x4)] st M' 0 0) (fun r11 M12 h => ?_))
        refine vv_if_eq (mi := mX11_answer) (pc := 39) 46 dX11_answer_39 rfl (fun c13 => ?_) (fun c13 => ?_)
        · replace h := h.1 c13
          refine vv_iconst (mi := mX11_answer) (pc := 46) 0 dX11_answer_46 rfl ?_
          refine vv_sub (mi := mX11_answer) [(0, .inr (.inr (some this))), (1, .inl x1), (3, .inl x3), (4, .inl x4)] [0, 1, 3, 4] rfl ?_
          exact bX11_answer_47 (X := X) hb7 h
        · replace h := h.2 c13
          refine vv_iconst (mi := mX11_answer) (pc := 42) 1 dX11_answer_42 rfl ?_
          refine vv_goto (mi := mX11_answer) (pc := 43) 47 dX11_answer_43 rfl ?_
          refine vv_sub (mi := mX11_answer) [(0, .inr (.inr (some this))), (1, .inl x1), (3, .inl x3), (4, .inl x4)] [0, 1, 3, 4] rfl ?_
          exact bX11_answer_47 (X := X) hb7 h
    · replace h := h.2 c8
      refine vv_goto (mi := mX11_answer) (pc := 26) 67 dX11_answer_26 rfl ?_
      refine vv_iinc (mi := mX11_answer) (pc := 67) (x4 + 1) 4 [(4, .inl (x4 + 1)), (0, .inr (.inr (some this))), (1, .inl x1), (2, .inl x2), (3, .inl x3)] dX11_answer_67 rfl rfl (Nat.le_of_ble_eq_true rfl) rfl ?_
      refine vv_goto (mi := mX11_answer) (pc := 70) 7 dX11_answer_70 rfl ?_
      refine vv_sub (mi := mX11_answer) [(0, .inr (.inr (some this))), (1, .inl x1), (2, .inl x2), (3, .inl x3), (4, .inl (x4 + 1))] [1, 2, 3, 4, 0] rfl ?_
      exact hb7 _ _ _ _ _ _ h
theorem loX11_answer_7 {X : Cx_}  {post : Int32 → Mm → Prop}  : ∀ (fu : Nat) {this : Nat} {x1 : Int32} {x2 : Int32} {x3 : Int32} {x4 : Int32} {M : Mm}, DX11_answer_7  post fu this x1 x2 x3 x4 M → VV X mX11_answer rX11_answer (pI_ post) 7 [(0, .inr (.inr (some this))), (1, .inl x1), (2, .inl x2), (3, .inl x3), (4, .inl x4)] [] M 0 0
  | 0, _, _, _, _, _, _, h => False.elim h
  | fu + 1, _, _, _, _, _, _, h => bX11_answer_7 (fun this x1 x2 x3 x4 M h => loX11_answer_7  fu h) h
set_option maxHeartbeats 4000000 in
set_option maxRecDepth 100000 in
theorem ctX11_answer {X : Cx_} {this : Nat} {a1 : Int32} {M : Mm} {post : Int32 → Mm → Prop} (h : PX11_answer this a1 M post) : CT X mX11_answer rX11_answer [.inr (.inr (some this)), .inl a1] M (pI_ post) := by
  unfold PX11_answer at h
  refine CT.of (by decide +kernel) (Nat.le_of_ble_eq_true rfl) ?_
  show VV X mX11_answer rX11_answer (pI_ post) 0 [(0, .inr (.inr (some this))), (1, .inl a1)] [] M 0 0
  refine vv_iconst (mi := mX11_answer) (pc := 0) 0 dX11_answer_0 rfl ?_
  refine vv_istore_n (mi := mX11_answer) (pc := 1) [(2, .inl 0), (0, .inr (.inr (some this))), (1, .inl a1)] dX11_answer_1 rfl (Nat.le_of_ble_eq_true rfl) rfl ?_
  refine vv_iconst (mi := mX11_answer) (pc := 2) 0 dX11_answer_2 rfl ?_
  refine vv_istore_n (mi := mX11_answer) (pc := 3) [(3, .inl 0), (2, .inl 0), (0, .inr (.inr (some this))), (1, .inl a1)] dX11_answer_3 rfl (Nat.le_of_ble_eq_true rfl) rfl ?_
  refine vv_iconst (mi := mX11_answer) (pc := 4) 0 dX11_answer_4 rfl ?_
  refine vv_istore (mi := mX11_answer) (pc := 5) [(4, .inl 0), (3, .inl 0), (2, .inl 0), (0, .inr (.inr (some this))), (1, .inl a1)] dX11_answer_5 (Nat.le_of_ble_eq_true rfl) rfl ?_
  refine vv_sub (mi := mX11_answer) [(0, .inr (.inr (some this))), (1, .inl a1), (2, .inl 0), (3, .inl 0), (4, .inl 0)] [3, 4, 2, 1, 0] rfl ?_
  obtain ⟨fu, h⟩ := h
  exact loX11_answer_7 (X := X)  fu h
set_option maxHeartbeats 4000000 in
set_option maxRecDepth 100000 in
theorem ctX11_figure {X : Cx_} {this : Nat} {a1 : Int32} {a2 : Int32} {M : Mm} {post : Int32 → Mm → Prop} (h : PX11_figure this a1 a2 M post) : CT X mX11_figure rX11_figure [.inr (.inr (some this)), .inl a1, .inl a2] M (pI_ post) := by
  unfold PX11_figure at h
  refine CT.of (by decide +kernel) (Nat.le_of_ble_eq_true rfl) ?_
  show VV X mX11_figure rX11_figure (pI_ post) 0 [(0, .inr (.inr (some this))), (1, .inl a1), (2, .inl a2)] [] M 0 0
  refine vv_aload_n (mi := mX11_figure) (pc := 0) 0 dX11_figure_0 rfl rfl ?_
  refine vv_iload_n (mi := mX11_figure) (pc := 1) 1 dX11_figure_1 rfl rfl ?_
  obtain ⟨ht1, h⟩ := h
  refine vv_callV (mi := mX11_figure) (pc := 2) (rest := []) (As := [.inl a1]) (ctX11_isCall (X := X) h) dX11_figure_2 rfl ht1 (Nat.le_of_ble_eq_true rfl) rfl mb_X11_isCall rfl ml_X11_233 im_X11_isCall se_X11_isCall ⟨(Nat.le_of_ble_eq_true rfl), (Nat.le_of_ble_eq_true rfl)⟩ ⟨(Nat.le_of_ble_eq_true rfl), (Nat.le_of_ble_eq_true rfl)⟩ (Nat.le_of_ble_eq_true rfl) rfl (kI_ (F := fun st M' => VV X mX11_figure rX11_figure (pI_ post) 5 [(0, .inr (.inr (some this))), (1, .inl a1), (2, .inl a2)] st M' 0 0) (fun r2 M3 h => ?_))
  refine vv_if_eq (mi := mX11_figure) (pc := 5) 20 dX11_figure_5 rfl (fun c4 => ?_) (fun c4 => ?_)
  · replace h := h.1 c4
    refine vv_bipush (mi := mX11_figure) (pc := 20) (-2) dX11_figure_20 rfl ?_
    exact vv_iret (mi := mX11_figure) (pc := 22) dX11_figure_22 rfl (Nat.le_of_ble_eq_true rfl) (Nat.le_of_ble_eq_true rfl) h
  · replace h := h.2 c4
    refine vv_iload_n (mi := mX11_figure) (pc := 8) 2 dX11_figure_8 rfl rfl ?_
    refine vv_i2l (mi := mX11_figure) (pc := 9) dX11_figure_9 ?_
    refine vv_lconst (mi := mX11_figure) (pc := 10) 0 dX11_figure_10 rfl ?_
    refine vv_ldc2 (mi := mX11_figure) (pc := 11) 9 dX11_figure_11 kl_X11_118 ?_
    refine vv_callS (mi := mX11_figure) (pc := 14) (rest := []) (As := [.inr (.inl (Int32.toInt64 a2)), .inr (.inl 0), .inr (.inl 9)]) (ctX11_in (X := X) h) dX11_figure_14 mb_X11_in rfl ml_X11_110 sc_X11_in ⟨(Nat.le_of_ble_eq_true rfl), (Nat.le_of_ble_eq_true rfl)⟩ ⟨(Nat.le_of_ble_eq_true rfl), (Nat.le_of_ble_eq_true rfl)⟩ (Nat.le_of_ble_eq_true rfl) rfl (kI_ (F := fun st M' => VV X mX11_figure rX11_figure (pI_ post) 17 [(0, .inr (.inr (some this))), (1, .inl a1), (2, .inl a2)] st M' 0 0) (fun r5 M6 h => ?_))
    refine vv_if_ne (mi := mX11_figure) (pc := 17) 23 dX11_figure_17 rfl (fun c7 => ?_) (fun c7 => ?_)
    · replace h := h.1 c7
      refine vv_aload_n (mi := mX11_figure) (pc := 23) 0 dX11_figure_23 rfl rfl ?_
      obtain ⟨ht8, h⟩ := h
      refine vv_getR (mi := mX11_figure) (pc := 24) 11 30 rfl ht8 fl_X11_90 (Nat.le_of_ble_eq_true rfl) dX11_figure_24 ?_
      refine vv_iload_n (mi := mX11_figure) (pc := 27) 1 dX11_figure_27 rfl rfl ?_
      obtain ⟨aq9, hs10, h⟩ := h
      obtain ⟨ht11, h⟩ := h
      obtain ⟨hi12, h⟩ := h
      refine vv_zald (mi := mX11_figure) (pc := 28) hs10 ht11 hi12 dX11_figure_28 ?_
      refine vv_if_eq (mi := mX11_figure) (pc := 29) 41 dX11_figure_29 rfl (fun c13 => ?_) (fun c13 => ?_)
      · replace h := h.1 c13
        refine vv_iconst (mi := mX11_figure) (pc := 41) (-1) dX11_figure_41 rfl ?_
        exact vv_iret (mi := mX11_figure) (pc := 42) dX11_figure_42 rfl (Nat.le_of_ble_eq_true rfl) (Nat.le_of_ble_eq_true rfl) h
      · replace h := h.2 c13
        refine vv_aload_n (mi := mX11_figure) (pc := 32) 0 dX11_figure_32 rfl rfl ?_
        refine vv_getR (mi := mX11_figure) (pc := 33) 11 29 rfl ht8 fl_X11_86 (Nat.le_of_ble_eq_true rfl) dX11_figure_33 ?_
        refine vv_iload_n (mi := mX11_figure) (pc := 36) 1 dX11_figure_36 rfl rfl ?_
        obtain ⟨aq14, hs15, h⟩ := h
        obtain ⟨ht16, h⟩ := h
        obtain ⟨hi17, h⟩ := h
        refine vv_zald (mi := mX11_figure) (pc := 37) hs15 ht16 hi17 dX11_figure_37 ?_
        refine vv_if_eq (mi := mX11_figure) (pc := 38) 43 dX11_figure_38 rfl (fun c18 => ?_) (fun c18 => ?_)
        · replace h := h.1 c18
          refine vv_aload_n (mi := mX11_figure) (pc := 43) 0 dX11_figure_43 rfl rfl ?_
          refine vv_getR (mi := mX11_figure) (pc := 44) 11 27 rfl ht8 fl_X11_80 (Nat.le_of_ble_eq_true rfl) dX11_figure_44 ?_
          refine vv_bipush (mi := mX11_figure) (pc := 47) 16 dX11_figure_47 rfl ?_
          refine vv_iload_n (mi := mX11_figure) (pc := 49) 1 dX11_figure_49 rfl rfl ?_
          refine vv_imul (mi := mX11_figure) (pc := 50) dX11_figure_50 ?_
          refine vv_aload_n (mi := mX11_figure) (pc := 51) 0 dX11_figure_51 rfl rfl ?_
          refine vv_getR (mi := mX11_figure) (pc := 52) 11 26 rfl ht8 fl_X11_77 (Nat.le_of_ble_eq_true rfl) dX11_figure_52 ?_
          refine vv_iload_n (mi := mX11_figure) (pc := 55) 1 dX11_figure_55 rfl rfl ?_
          obtain ⟨aq19, hs20, h⟩ := h
          obtain ⟨ht21, h⟩ := h
          obtain ⟨hi22, h⟩ := h
          refine vv_iald (mi := mX11_figure) (pc := 56) hs20 ht21 hi22 dX11_figure_56 ?_
          refine vv_iadd (mi := mX11_figure) (pc := 57) dX11_figure_57 ?_
          refine vv_iload_n (mi := mX11_figure) (pc := 58) 2 dX11_figure_58 rfl rfl ?_
          obtain ⟨aq23, hs24, h⟩ := h
          obtain ⟨ht25, h⟩ := h
          obtain ⟨hi26, h⟩ := h
          obtain ⟨M27, eM27⟩ : ∃ z : Mm, z = suI M6 aq23 (Int32.toNatClampNeg ((16 * a1) + (ddI M6 aq19 (Int32.toNatClampNeg a1)))) a2 := ⟨_, rfl⟩
          replace h := h _ eM27
          refine vv_iast (mi := mX11_figure) (pc := 59) hs24 ht25 hi26 dX11_figure_59 eM27 ?_
          refine vv_aload_n (mi := mX11_figure) (pc := 60) 0 dX11_figure_60 rfl rfl ?_
          refine vv_getR (mi := mX11_figure) (pc := 61) 11 26 rfl (tgI_ eM27 ht8) fl_X11_77 (Nat.le_of_ble_eq_true rfl) dX11_figure_61 ?_
          refine vv_iload_n (mi := mX11_figure) (pc := 64) 1 dX11_figure_64 rfl rfl ?_
          refine vv_dup2 (mi := mX11_figure) (pc := 65) dX11_figure_65 rfl rfl ?_
          obtain ⟨aq28, hs29, h⟩ := h
          obtain ⟨ht30, h⟩ := h
          obtain ⟨hi31, h⟩ := h
          refine vv_iald (mi := mX11_figure) (pc := 66) hs29 ht30 hi31 dX11_figure_66 ?_
          refine vv_iconst (mi := mX11_figure) (pc := 67) 1 dX11_figure_67 rfl ?_
          refine vv_iadd (mi := mX11_figure) (pc := 68) dX11_figure_68 ?_
          obtain ⟨hi32, h⟩ := h
          obtain ⟨M33, eM33⟩ : ∃ z : Mm, z = suI M27 aq28 (Int32.toNatClampNeg a1) ((ddI M27 aq28 (Int32.toNatClampNeg a1)) + 1) := ⟨_, rfl⟩
          replace h := h _ eM33
          refine vv_iast (mi := mX11_figure) (pc := 69) hs29 ht30 hi32 dX11_figure_69 eM33 ?_
          refine vv_aload_n (mi := mX11_figure) (pc := 70) 0 dX11_figure_70 rfl rfl ?_
          refine vv_iload_n (mi := mX11_figure) (pc := 71) 1 dX11_figure_71 rfl rfl ?_
          refine vv_callV (mi := mX11_figure) (pc := 72) (rest := []) (As := [.inl a1]) (ctX11_takeCall (X := X) h) dX11_figure_72 rfl (tgI_ eM33 (tgI_ eM27 ht8)) (Nat.le_of_ble_eq_true rfl) rfl mb_X11_takeCall rfl ml_X11_248 im_X11_takeCall se_X11_takeCall ⟨(Nat.le_of_ble_eq_true rfl), (Nat.le_of_ble_eq_true rfl)⟩ ⟨(Nat.le_of_ble_eq_true rfl), (Nat.le_of_ble_eq_true rfl)⟩ (Nat.le_of_ble_eq_true rfl) rfl (kV_ (F := fun st M' => VV X mX11_figure rX11_figure (pI_ post) 75 [(0, .inr (.inr (some this))), (1, .inl a1), (2, .inl a2)] st M' 0 0) (fun M35 h => ?_))
          refine vv_aload_n (mi := mX11_figure) (pc := 75) 0 dX11_figure_75 rfl rfl ?_
          obtain ⟨ht36, h⟩ := h
          refine vv_getR (mi := mX11_figure) (pc := 76) 11 28 rfl ht36 fl_X11_83 (Nat.le_of_ble_eq_true rfl) dX11_figure_76 ?_
          refine vv_iload_n (mi := mX11_figure) (pc := 79) 1 dX11_figure_79 rfl rfl ?_
          refine vv_aload_n (mi := mX11_figure) (pc := 80) 0 dX11_figure_80 rfl rfl ?_
          refine vv_aload_n (mi := mX11_figure) (pc := 81) 0 dX11_figure_81 rfl rfl ?_
          refine vv_getR (mi := mX11_figure) (pc := 82) 11 25 rfl ht36 fl_X11_74 (Nat.le_of_ble_eq_true rfl) dX11_figure_82 ?_
          refine vv_iload_n (mi := mX11_figure) (pc := 85) 1 dX11_figure_85 rfl rfl ?_
          obtain ⟨aq37, hs38, h⟩ := h
          obtain ⟨ht39, h⟩ := h
          obtain ⟨hi40, h⟩ := h
          refine vv_iald (mi := mX11_figure) (pc := 86) hs38 ht39 hi40 dX11_figure_86 ?_
          refine vv_callV (mi := mX11_figure) (pc := 87) (rest := [.inl a1, .inr (.inr (ddR M35 this 28))]) (As := [.inl (ddI M35 aq37 (Int32.toNatClampNeg a1))]) (ctX11_answer (X := X) h) dX11_figure_87 rfl ht36 (Nat.le_of_ble_eq_true rfl) rfl mb_X11_answer rfl ml_X11_252 im_X11_answer se_X11_answer ⟨(Nat.le_of_ble_eq_true rfl), (Nat.le_of_ble_eq_true rfl)⟩ ⟨(Nat.le_of_ble_eq_true rfl), (Nat.le_of_ble_eq_true rfl)⟩ (Nat.le_of_ble_eq_true rfl) rfl (kI_ (F := fun st M' => VV X mX11_figure rX11_figure (pI_ post) 90 [(0, .inr (.inr (some this))), (1, .inl a1), (2, .inl a2)] st M' 0 0) (fun r41 M42 h => ?_))
          obtain ⟨aq43, hs44, h⟩ := h
          obtain ⟨ht45, h⟩ := h
          obtain ⟨hi46, h⟩ := h
          obtain ⟨M47, eM47⟩ : ∃ z : Mm, z = suI M42 aq43 (Int32.toNatClampNeg a1) r41 := ⟨_, rfl⟩
          replace h := h _ eM47
          refine vv_iast (mi := mX11_figure) (pc := 90) hs44 ht45 hi46 dX11_figure_90 eM47 ?_
          refine vv_aload_n (mi := mX11_figure) (pc := 91) 0 dX11_figure_91 rfl rfl ?_
          obtain ⟨ht48, h⟩ := h
          refine vv_getR (mi := mX11_figure) (pc := 92) 11 29 rfl ht48 fl_X11_86 (Nat.le_of_ble_eq_true rfl) dX11_figure_92 ?_
          refine vv_iload_n (mi := mX11_figure) (pc := 95) 1 dX11_figure_95 rfl rfl ?_
          refine vv_aload_n (mi := mX11_figure) (pc := 96) 0 dX11_figure_96 rfl rfl ?_
          refine vv_getR (mi := mX11_figure) (pc := 97) 11 28 rfl ht48 fl_X11_83 (Nat.le_of_ble_eq_true rfl) dX11_figure_97 ?_
          refine vv_iload_n (mi := mX11_figure) (pc := 100) 1 dX11_figure_100 rfl rfl ?_
          obtain ⟨aq49, hs50, h⟩ := h
          obtain ⟨ht51, h⟩ := h
          obtain ⟨hi52, h⟩ := h
          refine vv_iald (mi := mX11_figure) (pc := 101) hs50 ht51 hi52 dX11_figure_101 ?_
          refine vv_iconst (mi := mX11_figure) (pc := 102) 1 dX11_figure_102 rfl ?_
          refine vv_iand (mi := mX11_figure) (pc := 103) dX11_figure_103 ?_
          refine vv_iconst (mi := mX11_figure) (pc := 104) 1 dX11_figure_104 rfl ?_
          refine vv_icmp_ne (mi := mX11_figure) (pc := 105) 112 dX11_figure_105 rfl (fun c53 => ?_) (fun c53 => ?_)
          · replace h := h.1 c53
            refine vv_iconst (mi := mX11_figure) (pc := 112) 0 dX11_figure_112 rfl ?_
            obtain ⟨aq54, hs55, h⟩ := h
            obtain ⟨ht56, h⟩ := h
            obtain ⟨hi57, h⟩ := h
            obtain ⟨M58, eM58⟩ : ∃ z : Mm, z = suI M47 aq54 (Int32.toNatClampNeg a1) 0 := ⟨_, rfl⟩
            replace h := h _ eM58
            refine vv_zast (mi := mX11_figure) (pc := 113) (Or.inl rfl) hs55 ht56 hi57 dX11_figure_113 eM58 ?_
            refine vv_aload_n (mi := mX11_figure) (pc := 114) 0 dX11_figure_114 rfl rfl ?_
            refine vv_getR (mi := mX11_figure) (pc := 115) 11 28 rfl (tgI_ eM58 ht48) fl_X11_83 (Nat.le_of_ble_eq_true rfl) dX11_figure_115 ?_
            refine vv_iload_n (mi := mX11_figure) (pc := 118) 1 dX11_figure_118 rfl rfl ?_
            obtain ⟨aq59, hs60, h⟩ := h
            obtain ⟨ht61, h⟩ := h
            obtain ⟨hi62, h⟩ := h
            refine vv_iald (mi := mX11_figure) (pc := 119) hs60 ht61 hi62 dX11_figure_119 ?_
            exact vv_iret (mi := mX11_figure) (pc := 120) dX11_figure_120 rfl (Nat.le_of_ble_eq_true rfl) (Nat.le_of_ble_eq_true rfl) h
          · replace h := h.2 c53
            refine vv_iconst (mi := mX11_figure) (pc := 108) 1 dX11_figure_108 rfl ?_
            refine vv_goto (mi := mX11_figure) (pc := 109) 113 dX11_figure_109 rfl ?_
            obtain ⟨aq63, hs64, h⟩ := h
            obtain ⟨ht65, h⟩ := h
            obtain ⟨hi66, h⟩ := h
            obtain ⟨M67, eM67⟩ : ∃ z : Mm, z = suI M47 aq63 (Int32.toNatClampNeg a1) 1 := ⟨_, rfl⟩
            replace h := h _ eM67
            refine vv_zast (mi := mX11_figure) (pc := 113) (Or.inr rfl) hs64 ht65 hi66 dX11_figure_113 eM67 ?_
            refine vv_aload_n (mi := mX11_figure) (pc := 114) 0 dX11_figure_114 rfl rfl ?_
            refine vv_getR (mi := mX11_figure) (pc := 115) 11 28 rfl (tgI_ eM67 ht48) fl_X11_83 (Nat.le_of_ble_eq_true rfl) dX11_figure_115 ?_
            refine vv_iload_n (mi := mX11_figure) (pc := 118) 1 dX11_figure_118 rfl rfl ?_
            obtain ⟨aq68, hs69, h⟩ := h
            obtain ⟨ht70, h⟩ := h
            obtain ⟨hi71, h⟩ := h
            refine vv_iald (mi := mX11_figure) (pc := 119) hs69 ht70 hi71 dX11_figure_119 ?_
            exact vv_iret (mi := mX11_figure) (pc := 120) dX11_figure_120 rfl (Nat.le_of_ble_eq_true rfl) (Nat.le_of_ble_eq_true rfl) h
        · replace h := h.2 c18
          refine vv_iconst (mi := mX11_figure) (pc := 41) (-1) dX11_figure_41 rfl ?_
          exact vv_iret (mi := mX11_figure) (pc := 42) dX11_figure_42 rfl (Nat.le_of_ble_eq_true rfl) (Nat.le_of_ble_eq_true rfl) h
    · replace h := h.2 c7
      refine vv_bipush (mi := mX11_figure) (pc := 20) (-2) dX11_figure_20 rfl ?_
      exact vv_iret (mi := mX11_figure) (pc := 22) dX11_figure_22 rfl (Nat.le_of_ble_eq_true rfl) (Nat.le_of_ble_eq_true rfl) h
set_option maxHeartbeats 4000000 in
set_option maxRecDepth 100000 in
theorem ctX11_waits {X : Cx_} {this : Nat} {a1 : Int32} {M : Mm} {post : Int32 → Mm → Prop} (h : PX11_waits this a1 M post) : CT X mX11_waits rX11_waits [.inr (.inr (some this)), .inl a1] M (pI_ post) := by
  unfold PX11_waits at h
  refine CT.of (by decide +kernel) (Nat.le_of_ble_eq_true rfl) ?_
  show VV X mX11_waits rX11_waits (pI_ post) 0 [(0, .inr (.inr (some this))), (1, .inl a1)] [] M 0 0
  refine vv_aload_n (mi := mX11_waits) (pc := 0) 0 dX11_waits_0 rfl rfl ?_
  refine vv_iload_n (mi := mX11_waits) (pc := 1) 1 dX11_waits_1 rfl rfl ?_
  obtain ⟨ht1, h⟩ := h
  refine vv_callV (mi := mX11_waits) (pc := 2) (rest := []) (As := [.inl a1]) (ctX11_isCall (X := X) h) dX11_waits_2 rfl ht1 (Nat.le_of_ble_eq_true rfl) rfl mb_X11_isCall rfl ml_X11_233 im_X11_isCall se_X11_isCall ⟨(Nat.le_of_ble_eq_true rfl), (Nat.le_of_ble_eq_true rfl)⟩ ⟨(Nat.le_of_ble_eq_true rfl), (Nat.le_of_ble_eq_true rfl)⟩ (Nat.le_of_ble_eq_true rfl) rfl (kI_ (F := fun st M' => VV X mX11_waits rX11_waits (pI_ post) 5 [(0, .inr (.inr (some this))), (1, .inl a1)] st M' 0 0) (fun r2 M3 h => ?_))
  refine vv_if_ne (mi := mX11_waits) (pc := 5) 11 dX11_waits_5 rfl (fun c4 => ?_) (fun c4 => ?_)
  · replace h := h.1 c4
    refine vv_aload_n (mi := mX11_waits) (pc := 11) 0 dX11_waits_11 rfl rfl ?_
    obtain ⟨ht5, h⟩ := h
    refine vv_getR (mi := mX11_waits) (pc := 12) 11 30 rfl ht5 fl_X11_90 (Nat.le_of_ble_eq_true rfl) dX11_waits_12 ?_
    refine vv_iload_n (mi := mX11_waits) (pc := 15) 1 dX11_waits_15 rfl rfl ?_
    obtain ⟨aq6, hs7, h⟩ := h
    obtain ⟨ht8, h⟩ := h
    obtain ⟨hi9, h⟩ := h
    refine vv_zald (mi := mX11_waits) (pc := 16) hs7 ht8 hi9 dX11_waits_16 ?_
    refine vv_if_eq (mi := mX11_waits) (pc := 17) 29 dX11_waits_17 rfl (fun c10 => ?_) (fun c10 => ?_)
    · replace h := h.1 c10
      refine vv_iconst (mi := mX11_waits) (pc := 29) (-1) dX11_waits_29 rfl ?_
      exact vv_iret (mi := mX11_waits) (pc := 30) dX11_waits_30 rfl (Nat.le_of_ble_eq_true rfl) (Nat.le_of_ble_eq_true rfl) h
    · replace h := h.2 c10
      refine vv_aload_n (mi := mX11_waits) (pc := 20) 0 dX11_waits_20 rfl rfl ?_
      refine vv_getR (mi := mX11_waits) (pc := 21) 11 29 rfl ht5 fl_X11_86 (Nat.le_of_ble_eq_true rfl) dX11_waits_21 ?_
      refine vv_iload_n (mi := mX11_waits) (pc := 24) 1 dX11_waits_24 rfl rfl ?_
      obtain ⟨aq11, hs12, h⟩ := h
      obtain ⟨ht13, h⟩ := h
      obtain ⟨hi14, h⟩ := h
      refine vv_zald (mi := mX11_waits) (pc := 25) hs12 ht13 hi14 dX11_waits_25 ?_
      refine vv_if_eq (mi := mX11_waits) (pc := 26) 31 dX11_waits_26 rfl (fun c15 => ?_) (fun c15 => ?_)
      · replace h := h.1 c15
        refine vv_aload_n (mi := mX11_waits) (pc := 31) 0 dX11_waits_31 rfl rfl ?_
        refine vv_getR (mi := mX11_waits) (pc := 32) 11 28 rfl ht5 fl_X11_83 (Nat.le_of_ble_eq_true rfl) dX11_waits_32 ?_
        refine vv_iload_n (mi := mX11_waits) (pc := 35) 1 dX11_waits_35 rfl rfl ?_
        obtain ⟨aq16, hs17, h⟩ := h
        obtain ⟨ht18, h⟩ := h
        obtain ⟨hi19, h⟩ := h
        refine vv_iald (mi := mX11_waits) (pc := 36) hs17 ht18 hi19 dX11_waits_36 ?_
        refine vv_iconst (mi := mX11_waits) (pc := 37) 2 dX11_waits_37 rfl ?_
        refine vv_icmp_eq (mi := mX11_waits) (pc := 38) 43 dX11_waits_38 rfl (fun c20 => ?_) (fun c20 => ?_)
        · replace h := h.1 c20
          refine vv_aload_n (mi := mX11_waits) (pc := 43) 0 dX11_waits_43 rfl rfl ?_
          refine vv_getR (mi := mX11_waits) (pc := 44) 11 29 rfl ht5 fl_X11_86 (Nat.le_of_ble_eq_true rfl) dX11_waits_44 ?_
          refine vv_iload_n (mi := mX11_waits) (pc := 47) 1 dX11_waits_47 rfl rfl ?_
          refine vv_iconst (mi := mX11_waits) (pc := 48) 1 dX11_waits_48 rfl ?_
          obtain ⟨hi21, h⟩ := h
          obtain ⟨M22, eM22⟩ : ∃ z : Mm, z = suI M3 aq11 (Int32.toNatClampNeg a1) 1 := ⟨_, rfl⟩
          replace h := h _ eM22
          refine vv_zast (mi := mX11_waits) (pc := 49) (Or.inr rfl) hs12 ht13 hi21 dX11_waits_49 eM22 ?_
          refine vv_iconst (mi := mX11_waits) (pc := 50) 1 dX11_waits_50 rfl ?_
          exact vv_iret (mi := mX11_waits) (pc := 51) dX11_waits_51 rfl (Nat.le_of_ble_eq_true rfl) (Nat.le_of_ble_eq_true rfl) h
        · replace h := h.2 c20
          refine vv_iconst (mi := mX11_waits) (pc := 41) 0 dX11_waits_41 rfl ?_
          exact vv_iret (mi := mX11_waits) (pc := 42) dX11_waits_42 rfl (Nat.le_of_ble_eq_true rfl) (Nat.le_of_ble_eq_true rfl) h
      · replace h := h.2 c15
        refine vv_iconst (mi := mX11_waits) (pc := 29) (-1) dX11_waits_29 rfl ?_
        exact vv_iret (mi := mX11_waits) (pc := 30) dX11_waits_30 rfl (Nat.le_of_ble_eq_true rfl) (Nat.le_of_ble_eq_true rfl) h
  · replace h := h.2 c4
    refine vv_bipush (mi := mX11_waits) (pc := 8) (-2) dX11_waits_8 rfl ?_
    exact vv_iret (mi := mX11_waits) (pc := 10) dX11_waits_10 rfl (Nat.le_of_ble_eq_true rfl) (Nat.le_of_ble_eq_true rfl) h
set_option maxHeartbeats 4000000 in
set_option maxRecDepth 100000 in
theorem ctX11_rank {X : Cx_} {this : Nat} {a1 : Int32} {M : Mm} {post : Int32 → Mm → Prop} (h : PX11_rank this a1 M post) : CT X mX11_rank rX11_rank [.inr (.inr (some this)), .inl a1] M (pI_ post) := by
  unfold PX11_rank at h
  refine CT.of (by decide +kernel) (Nat.le_of_ble_eq_true rfl) ?_
  show VV X mX11_rank rX11_rank (pI_ post) 0 [(0, .inr (.inr (some this))), (1, .inl a1)] [] M 0 0
  refine vv_aload_n (mi := mX11_rank) (pc := 0) 0 dX11_rank_0 rfl rfl ?_
  obtain ⟨ht1, h⟩ := h
  refine vv_getR (mi := mX11_rank) (pc := 1) 11 2 rfl ht1 fl_X11_7 (Nat.le_of_ble_eq_true rfl) dX11_rank_1 ?_
  refine vv_iload_n (mi := mX11_rank) (pc := 4) 1 dX11_rank_4 rfl rfl ?_
  obtain ⟨aq2, hs3, h⟩ := h
  obtain ⟨ht4, h⟩ := h
  obtain ⟨hi5, h⟩ := h
  refine vv_iald (mi := mX11_rank) (pc := 5) hs3 ht4 hi5 dX11_rank_5 ?_
  refine vv_iconst (mi := mX11_rank) (pc := 6) 1 dX11_rank_6 rfl ?_
  refine vv_icmp_ne (mi := mX11_rank) (pc := 7) 14 dX11_rank_7 rfl (fun c6 => ?_) (fun c6 => ?_)
  · replace h := h.1 c6
    refine vv_aload_n (mi := mX11_rank) (pc := 14) 0 dX11_rank_14 rfl rfl ?_
    refine vv_getR (mi := mX11_rank) (pc := 15) 11 2 rfl ht1 fl_X11_7 (Nat.le_of_ble_eq_true rfl) dX11_rank_15 ?_
    refine vv_iload_n (mi := mX11_rank) (pc := 18) 1 dX11_rank_18 rfl rfl ?_
    obtain ⟨hi7, h⟩ := h
    refine vv_iald (mi := mX11_rank) (pc := 19) hs3 ht4 hi7 dX11_rank_19 ?_
    refine vv_if_ne (mi := mX11_rank) (pc := 20) 27 dX11_rank_20 rfl (fun c8 => ?_) (fun c8 => ?_)
    · replace h := h.1 c8
      refine vv_aload_n (mi := mX11_rank) (pc := 27) 0 dX11_rank_27 rfl rfl ?_
      refine vv_getR (mi := mX11_rank) (pc := 28) 11 2 rfl ht1 fl_X11_7 (Nat.le_of_ble_eq_true rfl) dX11_rank_28 ?_
      refine vv_iload_n (mi := mX11_rank) (pc := 31) 1 dX11_rank_31 rfl rfl ?_
      obtain ⟨hi9, h⟩ := h
      refine vv_iald (mi := mX11_rank) (pc := 32) hs3 ht4 hi9 dX11_rank_32 ?_
      refine vv_iconst (mi := mX11_rank) (pc := 33) 3 dX11_rank_33 rfl ?_
      refine vv_icmp_ne (mi := mX11_rank) (pc := 34) 41 dX11_rank_34 rfl (fun c10 => ?_) (fun c10 => ?_)
      · replace h := h.1 c10
        refine vv_iconst (mi := mX11_rank) (pc := 41) 3 dX11_rank_41 rfl ?_
        exact vv_iret (mi := mX11_rank) (pc := 42) dX11_rank_42 rfl (Nat.le_of_ble_eq_true rfl) (Nat.le_of_ble_eq_true rfl) h
      · replace h := h.2 c10
        refine vv_iconst (mi := mX11_rank) (pc := 37) 2 dX11_rank_37 rfl ?_
        refine vv_goto (mi := mX11_rank) (pc := 38) 42 dX11_rank_38 rfl ?_
        exact vv_iret (mi := mX11_rank) (pc := 42) dX11_rank_42 rfl (Nat.le_of_ble_eq_true rfl) (Nat.le_of_ble_eq_true rfl) h
    · replace h := h.2 c8
      refine vv_iconst (mi := mX11_rank) (pc := 23) 1 dX11_rank_23 rfl ?_
      refine vv_goto (mi := mX11_rank) (pc := 24) 42 dX11_rank_24 rfl ?_
      exact vv_iret (mi := mX11_rank) (pc := 42) dX11_rank_42 rfl (Nat.le_of_ble_eq_true rfl) (Nat.le_of_ble_eq_true rfl) h
  · replace h := h.2 c6
    refine vv_iconst (mi := mX11_rank) (pc := 10) 0 dX11_rank_10 rfl ?_
    refine vv_goto (mi := mX11_rank) (pc := 11) 42 dX11_rank_11 rfl ?_
    exact vv_iret (mi := mX11_rank) (pc := 42) dX11_rank_42 rfl (Nat.le_of_ble_eq_true rfl) (Nat.le_of_ble_eq_true rfl) h
set_option maxHeartbeats 4000000 in
set_option maxRecDepth 100000 in
theorem bX11_leadsTo_4 {X : Cx_} {kb4 : Nat → Int32 → Int32 → Int32 → Mm → Prop} {post : Int32 → Mm → Prop} (hb4 : ∀ (this : Nat) (x1 : Int32) (x2 : Int32) (x3 : Int32) (M : Mm), kb4 this x1 x2 x3 M → VV X mX11_leadsTo rX11_leadsTo (pI_ post) 4 [(0, .inr (.inr (some this))), (1, .inl x1), (2, .inl x2), (3, .inl x3)] [] M 0 0) {this : Nat} {x1 : Int32} {x2 : Int32} {x3 : Int32} {M : Mm} (h : BX11_leadsTo_4 kb4 post this x1 x2 x3 M) : VV X mX11_leadsTo rX11_leadsTo (pI_ post) 4 [(0, .inr (.inr (some this))), (1, .inl x1), (2, .inl x2), (3, .inl x3)] [] M 0 0 := by
  unfold BX11_leadsTo_4 at h
  refine vv_iload_n (mi := mX11_leadsTo) (pc := 4) 3 dX11_leadsTo_4 rfl rfl ?_
  refine vv_aload_n (mi := mX11_leadsTo) (pc := 5) 0 dX11_leadsTo_5 rfl rfl ?_
  obtain ⟨ht1, h⟩ := h
  refine vv_getI (mi := mX11_leadsTo) (pc := 6) 11 1 rfl ht1 fl_X11_130 (Nat.le_of_ble_eq_true rfl) dX11_leadsTo_6 ?_
  refine vv_icmp_ge (mi := mX11_leadsTo) (pc := 9) 58 dX11_leadsTo_9 rfl (fun c2 => ?_) (fun c2 => ?_)
  · replace h := h.1 c2
    refine vv_iload_n (mi := mX11_leadsTo) (pc := 58) 2 dX11_leadsTo_58 rfl rfl ?_
    exact vv_iret (mi := mX11_leadsTo) (pc := 59) dX11_leadsTo_59 rfl (Nat.le_of_ble_eq_true rfl) (Nat.le_of_ble_eq_true rfl) h
  · replace h := h.2 c2
    refine vv_aload_n (mi := mX11_leadsTo) (pc := 12) 0 dX11_leadsTo_12 rfl rfl ?_
    refine vv_iload_n (mi := mX11_leadsTo) (pc := 13) 3 dX11_leadsTo_13 rfl rfl ?_
    refine vv_iload_n (mi := mX11_leadsTo) (pc := 14) 1 dX11_leadsTo_14 rfl rfl ?_
    refine vv_callV (mi := mX11_leadsTo) (pc := 15) (rest := []) (As := [.inl x3, .inl x1]) (ctX11_isForce (X := X) h) dX11_leadsTo_15 rfl ht1 (Nat.le_of_ble_eq_true rfl) rfl mb_X11_isForce rfl ml_X11_197 im_X11_isForce se_X11_isForce ⟨(Nat.le_of_ble_eq_true rfl), (Nat.le_of_ble_eq_true rfl)⟩ ⟨(Nat.le_of_ble_eq_true rfl), (Nat.le_of_ble_eq_true rfl)⟩ (Nat.le_of_ble_eq_true rfl) rfl (kI_ (F := fun st M' => VV X mX11_leadsTo rX11_leadsTo (pI_ post) 18 [(0, .inr (.inr (some this))), (1, .inl x1), (2, .inl x2), (3, .inl x3)] st M' 0 0) (fun r3 M4 h => ?_))
    refine vv_if_eq (mi := mX11_leadsTo) (pc := 18) 52 dX11_leadsTo_18 rfl (fun c5 => ?_) (fun c5 => ?_)
    · replace h := h.1 c5
      refine vv_iinc (mi := mX11_leadsTo) (pc := 52) (x3 + 1) 3 [(3, .inl (x3 + 1)), (0, .inr (.inr (some this))), (1, .inl x1), (2, .inl x2)] dX11_leadsTo_52 rfl rfl (Nat.le_of_ble_eq_true rfl) rfl ?_
      refine vv_goto (mi := mX11_leadsTo) (pc := 55) 4 dX11_leadsTo_55 rfl ?_
      refine vv_sub (mi := mX11_leadsTo) [(0, .inr (.inr (some this))), (1, .inl x1), (2, .inl x2), (3, .inl (x3 + 1))] [1, 2, 3, 0] rfl ?_
      exact hb4 _ _ _ _ _ h
    · replace h := h.2 c5
      refine vv_aload_n (mi := mX11_leadsTo) (pc := 21) 0 dX11_leadsTo_21 rfl rfl ?_
      refine vv_iload_n (mi := mX11_leadsTo) (pc := 22) 3 dX11_leadsTo_22 rfl rfl ?_
      obtain ⟨ht6, h⟩ := h
      refine vv_callV (mi := mX11_leadsTo) (pc := 23) (rest := []) (As := [.inl x3]) (ctX11_isNumber (X := X) h) dX11_leadsTo_23 rfl ht6 (Nat.le_of_ble_eq_true rfl) rfl mb_X11_isNumber rfl ml_X11_242 im_X11_isNumber se_X11_isNumber ⟨(Nat.le_of_ble_eq_true rfl), (Nat.le_of_ble_eq_true rfl)⟩ ⟨(Nat.le_of_ble_eq_true rfl), (Nat.le_of_ble_eq_true rfl)⟩ (Nat.le_of_ble_eq_true rfl) rfl (kI_ (F := fun st M' => VV X mX11_leadsTo rX11_leadsTo (pI_ post) 26 [(0, .inr (.inr (some this))), (1, .inl x1), (2, .inl x2), (3, .inl x3)] st M' 0 0) (fun r7 M8 h => ?_))
      refine vv_if_ne (mi := mX11_leadsTo) (pc := 26) 32 dX11_leadsTo_26 rfl (fun c9 => ?_) (fun c9 => ?_)
      · replace h := h.1 c9
        refine vv_iload_n (mi := mX11_leadsTo) (pc := 32) 2 dX11_leadsTo_32 rfl rfl ?_
        refine vv_iconst (mi := mX11_leadsTo) (pc := 33) (-1) dX11_leadsTo_33 rfl ?_
        refine vv_icmp_eq (mi := mX11_leadsTo) (pc := 34) 50 dX11_leadsTo_34 rfl (fun c10 => ?_) (fun c10 => ?_)
        · replace h := h.1 c10
          refine vv_iload_n (mi := mX11_leadsTo) (pc := 50) 3 dX11_leadsTo_50 rfl rfl ?_
          refine vv_istore_n (mi := mX11_leadsTo) (pc := 51) [(2, .inl x3), (0, .inr (.inr (some this))), (1, .inl x1), (3, .inl x3)] dX11_leadsTo_51 rfl (Nat.le_of_ble_eq_true rfl) rfl ?_
          refine vv_iinc (mi := mX11_leadsTo) (pc := 52) (x3 + 1) 3 [(3, .inl (x3 + 1)), (2, .inl x3), (0, .inr (.inr (some this))), (1, .inl x1)] dX11_leadsTo_52 rfl rfl (Nat.le_of_ble_eq_true rfl) rfl ?_
          refine vv_goto (mi := mX11_leadsTo) (pc := 55) 4 dX11_leadsTo_55 rfl ?_
          refine vv_sub (mi := mX11_leadsTo) [(0, .inr (.inr (some this))), (1, .inl x1), (2, .inl x3), (3, .inl (x3 + 1))] [2, 3, 1, 0] rfl ?_
          exact hb4 _ _ _ _ _ h
        · replace h := h.2 c10
          refine vv_aload_n (mi := mX11_leadsTo) (pc := 37) 0 dX11_leadsTo_37 rfl rfl ?_
          refine vv_iload_n (mi := mX11_leadsTo) (pc := 38) 3 dX11_leadsTo_38 rfl rfl ?_
          obtain ⟨ht11, h⟩ := h
          refine vv_callV (mi := mX11_leadsTo) (pc := 39) (rest := []) (As := [.inl x3]) (ctX11_rank (X := X) h) dX11_leadsTo_39 rfl ht11 (Nat.le_of_ble_eq_true rfl) rfl mb_X11_rank rfl ml_X11_255 im_X11_rank se_X11_rank ⟨(Nat.le_of_ble_eq_true rfl), (Nat.le_of_ble_eq_true rfl)⟩ ⟨(Nat.le_of_ble_eq_true rfl), (Nat.le_of_ble_eq_true rfl)⟩ (Nat.le_of_ble_eq_true rfl) rfl (kI_ (F := fun st M' => VV X mX11_leadsTo rX11_leadsTo (pI_ post) 42 [(0, .inr (.inr (some this))), (1, .inl x1), (2, .inl x2), (3, .inl x3)] st M' 0 0) (fun r12 M13 h => ?_))
          refine vv_aload_n (mi := mX11_leadsTo) (pc := 42) 0 dX11_leadsTo_42 rfl rfl ?_
          refine vv_iload_n (mi := mX11_leadsTo) (pc := 43) 2 dX11_leadsTo_43 rfl rfl ?_
          obtain ⟨ht14, h⟩ := h
          refine vv_callV (mi := mX11_leadsTo) (pc := 44) (rest := [.inl r12]) (As := [.inl x2]) (ctX11_rank (X := X) h) dX11_leadsTo_44 rfl ht14 (Nat.le_of_ble_eq_true rfl) rfl mb_X11_rank rfl ml_X11_255 im_X11_rank se_X11_rank ⟨(Nat.le_of_ble_eq_true rfl), (Nat.le_of_ble_eq_true rfl)⟩ ⟨(Nat.le_of_ble_eq_true rfl), (Nat.le_of_ble_eq_true rfl)⟩ (Nat.le_of_ble_eq_true rfl) rfl (kI_ (F := fun st M' => VV X mX11_leadsTo rX11_leadsTo (pI_ post) 47 [(0, .inr (.inr (some this))), (1, .inl x1), (2, .inl x2), (3, .inl x3)] st M' 0 0) (fun r15 M16 h => ?_))
          refine vv_icmp_ge (mi := mX11_leadsTo) (pc := 47) 52 dX11_leadsTo_47 rfl (fun c17 => ?_) (fun c17 => ?_)
          · replace h := h.1 c17
            refine vv_iinc (mi := mX11_leadsTo) (pc := 52) (x3 + 1) 3 [(3, .inl (x3 + 1)), (0, .inr (.inr (some this))), (1, .inl x1), (2, .inl x2)] dX11_leadsTo_52 rfl rfl (Nat.le_of_ble_eq_true rfl) rfl ?_
            refine vv_goto (mi := mX11_leadsTo) (pc := 55) 4 dX11_leadsTo_55 rfl ?_
            refine vv_sub (mi := mX11_leadsTo) [(0, .inr (.inr (some this))), (1, .inl x1), (2, .inl x2), (3, .inl (x3 + 1))] [1, 2, 3, 0] rfl ?_
            exact hb4 _ _ _ _ _ h
          · replace h := h.2 c17
            refine vv_iload_n (mi := mX11_leadsTo) (pc := 50) 3 dX11_leadsTo_50 rfl rfl ?_
            refine vv_istore_n (mi := mX11_leadsTo) (pc := 51) [(2, .inl x3), (0, .inr (.inr (some this))), (1, .inl x1), (3, .inl x3)] dX11_leadsTo_51 rfl (Nat.le_of_ble_eq_true rfl) rfl ?_
            refine vv_iinc (mi := mX11_leadsTo) (pc := 52) (x3 + 1) 3 [(3, .inl (x3 + 1)), (2, .inl x3), (0, .inr (.inr (some this))), (1, .inl x1)] dX11_leadsTo_52 rfl rfl (Nat.le_of_ble_eq_true rfl) rfl ?_
            refine vv_goto (mi := mX11_leadsTo) (pc := 55) 4 dX11_leadsTo_55 rfl ?_
            refine vv_sub (mi := mX11_leadsTo) [(0, .inr (.inr (some this))), (1, .inl x1), (2, .inl x3), (3, .inl (x3 + 1))] [2, 3, 1, 0] rfl ?_
            exact hb4 _ _ _ _ _ h
      · replace h := h.2 c9
        refine vv_goto (mi := mX11_leadsTo) (pc := 29) 52 dX11_leadsTo_29 rfl ?_
        refine vv_iinc (mi := mX11_leadsTo) (pc := 52) (x3 + 1) 3 [(3, .inl (x3 + 1)), (0, .inr (.inr (some this))), (1, .inl x1), (2, .inl x2)] dX11_leadsTo_52 rfl rfl (Nat.le_of_ble_eq_true rfl) rfl ?_
        refine vv_goto (mi := mX11_leadsTo) (pc := 55) 4 dX11_leadsTo_55 rfl ?_
        refine vv_sub (mi := mX11_leadsTo) [(0, .inr (.inr (some this))), (1, .inl x1), (2, .inl x2), (3, .inl (x3 + 1))] [1, 2, 3, 0] rfl ?_
        exact hb4 _ _ _ _ _ h
theorem loX11_leadsTo_4 {X : Cx_}  {post : Int32 → Mm → Prop}  : ∀ (fu : Nat) {this : Nat} {x1 : Int32} {x2 : Int32} {x3 : Int32} {M : Mm}, DX11_leadsTo_4  post fu this x1 x2 x3 M → VV X mX11_leadsTo rX11_leadsTo (pI_ post) 4 [(0, .inr (.inr (some this))), (1, .inl x1), (2, .inl x2), (3, .inl x3)] [] M 0 0
  | 0, _, _, _, _, _, h => False.elim h
  | fu + 1, _, _, _, _, _, h => bX11_leadsTo_4 (fun this x1 x2 x3 M h => loX11_leadsTo_4  fu h) h
set_option maxHeartbeats 4000000 in
set_option maxRecDepth 100000 in
theorem ctX11_leadsTo {X : Cx_} {this : Nat} {a1 : Int32} {M : Mm} {post : Int32 → Mm → Prop} (h : PX11_leadsTo this a1 M post) : CT X mX11_leadsTo rX11_leadsTo [.inr (.inr (some this)), .inl a1] M (pI_ post) := by
  unfold PX11_leadsTo at h
  refine CT.of (by decide +kernel) (Nat.le_of_ble_eq_true rfl) ?_
  show VV X mX11_leadsTo rX11_leadsTo (pI_ post) 0 [(0, .inr (.inr (some this))), (1, .inl a1)] [] M 0 0
  refine vv_iconst (mi := mX11_leadsTo) (pc := 0) (-1) dX11_leadsTo_0 rfl ?_
  refine vv_istore_n (mi := mX11_leadsTo) (pc := 1) [(2, .inl (-1)), (0, .inr (.inr (some this))), (1, .inl a1)] dX11_leadsTo_1 rfl (Nat.le_of_ble_eq_true rfl) rfl ?_
  refine vv_iconst (mi := mX11_leadsTo) (pc := 2) 0 dX11_leadsTo_2 rfl ?_
  refine vv_istore_n (mi := mX11_leadsTo) (pc := 3) [(3, .inl 0), (2, .inl (-1)), (0, .inr (.inr (some this))), (1, .inl a1)] dX11_leadsTo_3 rfl (Nat.le_of_ble_eq_true rfl) rfl ?_
  refine vv_sub (mi := mX11_leadsTo) [(0, .inr (.inr (some this))), (1, .inl a1), (2, .inl (-1)), (3, .inl 0)] [2, 3, 1, 0] rfl ?_
  obtain ⟨fu, h⟩ := h
  exact loX11_leadsTo_4 (X := X)  fu h
set_option maxHeartbeats 4000000 in
set_option maxRecDepth 100000 in
theorem bX11_lineOf_40 {X : Cx_} {kb40 : Nat → Int32 → Int32 → Int64 → Int32 → Mm → Prop} {post : Int32 → Mm → Prop} (hb40 : ∀ (this : Nat) (x1 : Int32) (x2 : Int32) (x3 : Int64) (x5 : Int32) (M : Mm), kb40 this x1 x2 x3 x5 M → VV X mX11_lineOf rX11_lineOf (pI_ post) 40 [(0, .inr (.inr (some this))), (1, .inl x1), (2, .inl x2), (3, .inr (.inl x3)), (5, .inl x5)] [] M 0 0) {this : Nat} {x1 : Int32} {x2 : Int32} {x3 : Int64} {x5 : Int32} {M : Mm} (h : BX11_lineOf_40 kb40 post this x1 x2 x3 x5 M) : VV X mX11_lineOf rX11_lineOf (pI_ post) 40 [(0, .inr (.inr (some this))), (1, .inl x1), (2, .inl x2), (3, .inr (.inl x3)), (5, .inl x5)] [] M 0 0 := by
  unfold BX11_lineOf_40 at h
  refine vv_iload (mi := mX11_lineOf) (pc := 40) 4 dX11_lineOf_40 rfl ?_
  refine vv_aload_n (mi := mX11_lineOf) (pc := 42) 0 dX11_lineOf_42 rfl rfl ?_
  obtain ⟨ht16, h⟩ := h
  refine vv_getI (mi := mX11_lineOf) (pc := 43) 11 32 rfl ht16 fl_X11_236 (Nat.le_of_ble_eq_true rfl) dX11_lineOf_43 ?_
  refine vv_icmp_ge (mi := mX11_lineOf) (pc := 46) 70 dX11_lineOf_46 rfl (fun c17 => ?_) (fun c17 => ?_)
  · replace h := h.1 c17
    refine vv_aload_n (mi := mX11_lineOf) (pc := 70) 0 dX11_lineOf_70 rfl rfl ?_
    refine vv_getR (mi := mX11_lineOf) (pc := 71) 11 2 rfl ht16 fl_X11_7 (Nat.le_of_ble_eq_true rfl) dX11_lineOf_71 ?_
    refine vv_iload_n (mi := mX11_lineOf) (pc := 74) 1 dX11_lineOf_74 rfl rfl ?_
    obtain ⟨aq18, hs19, h⟩ := h
    obtain ⟨ht20, h⟩ := h
    obtain ⟨hi21, h⟩ := h
    refine vv_iald (mi := mX11_lineOf) (pc := 75) hs19 ht20 hi21 dX11_lineOf_75 ?_
    refine vv_if_ne (mi := mX11_lineOf) (pc := 76) 83 dX11_lineOf_76 rfl (fun c22 => ?_) (fun c22 => ?_)
    · replace h := h.1 c22
      refine vv_aload_n (mi := mX11_lineOf) (pc := 83) 0 dX11_lineOf_83 rfl rfl ?_
      refine vv_aload_n (mi := mX11_lineOf) (pc := 84) 0 dX11_lineOf_84 rfl rfl ?_
      refine vv_getR (mi := mX11_lineOf) (pc := 85) 11 3 rfl ht16 fl_X11_13 (Nat.le_of_ble_eq_true rfl) dX11_lineOf_85 ?_
      refine vv_iload_n (mi := mX11_lineOf) (pc := 88) 1 dX11_lineOf_88 rfl rfl ?_
      obtain ⟨aq23, hs24, h⟩ := h
      obtain ⟨ht25, h⟩ := h
      obtain ⟨hi26, h⟩ := h
      refine vv_iald (mi := mX11_lineOf) (pc := 89) hs24 ht25 hi26 dX11_lineOf_89 ?_
      refine vv_lload_n (mi := mX11_lineOf) (pc := 90) 3 dX11_lineOf_90 rfl rfl ?_
      refine vv_iload_n (mi := mX11_lineOf) (pc := 91) 2 dX11_lineOf_91 rfl rfl ?_
      refine vv_callV (mi := mX11_lineOf) (pc := 92) (rest := []) (As := [.inl (ddI M aq23 (Int32.toNatClampNeg x1)), .inr (.inl x3), .inl x2]) (ctX11_follow (X := X) h) dX11_lineOf_92 rfl ht16 (Nat.le_of_ble_eq_true rfl) rfl mb_X11_follow rfl ml_X11_203 im_X11_follow se_X11_follow ⟨(Nat.le_of_ble_eq_true rfl), (Nat.le_of_ble_eq_true rfl)⟩ ⟨(Nat.le_of_ble_eq_true rfl), (Nat.le_of_ble_eq_true rfl)⟩ (Nat.le_of_ble_eq_true rfl) rfl (kI_ (F := fun st M' => VV X mX11_lineOf rX11_lineOf (pI_ post) 95 [(0, .inr (.inr (some this))), (1, .inl x1), (2, .inl x2), (3, .inr (.inl x3)), (5, .inl x5)] st M' 0 0) (fun r27 M28 h => ?_))
      refine vv_istore (mi := mX11_lineOf) (pc := 95) [(5, .inl r27), (0, .inr (.inr (some this))), (1, .inl x1), (2, .inl x2), (3, .inr (.inl x3))] dX11_lineOf_95 (Nat.le_of_ble_eq_true rfl) rfl ?_
      refine vv_iload (mi := mX11_lineOf) (pc := 97) 0 dX11_lineOf_97 rfl ?_
      refine vv_iconst (mi := mX11_lineOf) (pc := 99) (-1) dX11_lineOf_99 rfl ?_
      refine vv_icmp_ne (mi := mX11_lineOf) (pc := 100) 107 dX11_lineOf_100 rfl (fun c29 => ?_) (fun c29 => ?_)
      · replace h := h.1 c29
        refine vv_aload_n (mi := mX11_lineOf) (pc := 107) 1 dX11_lineOf_107 rfl rfl ?_
        refine vv_iload (mi := mX11_lineOf) (pc := 108) 0 dX11_lineOf_108 rfl ?_
        refine vv_lload_n (mi := mX11_lineOf) (pc := 110) 4 dX11_lineOf_110 rfl rfl ?_
        refine vv_iload_n (mi := mX11_lineOf) (pc := 111) 3 dX11_lineOf_111 rfl rfl ?_
        obtain ⟨ht30, h⟩ := h
        refine vv_callV (mi := mX11_lineOf) (pc := 112) (rest := []) (As := [.inl r27, .inr (.inl x3), .inl x2]) (ctX11_lineOn (X := X) h) dX11_lineOf_112 rfl ht30 (Nat.le_of_ble_eq_true rfl) rfl mb_X11_lineOn rfl ml_X11_213 im_X11_lineOn se_X11_lineOn ⟨(Nat.le_of_ble_eq_true rfl), (Nat.le_of_ble_eq_true rfl)⟩ ⟨(Nat.le_of_ble_eq_true rfl), (Nat.le_of_ble_eq_true rfl)⟩ (Nat.le_of_ble_eq_true rfl) rfl (kI_ (F := fun st M' => VV X mX11_lineOf rX11_lineOf (pI_ post) 115 [(5, .inl r27), (0, .inr (.inr (some this))), (1, .inl x1), (2, .inl x2), (3, .inr (.inl x3))] st M' 0 0) (fun r31 M32 h => ?_))
        exact vv_iret (mi := mX11_lineOf) (pc := 115) dX11_lineOf_115 rfl (Nat.le_of_ble_eq_true rfl) (Nat.le_of_ble_eq_true rfl) h
      · replace h := h.2 c29
        refine vv_iconst (mi := mX11_lineOf) (pc := 103) (-1) dX11_lineOf_103 rfl ?_
        refine vv_goto (mi := mX11_lineOf) (pc := 104) 115 dX11_lineOf_104 rfl ?_
        exact vv_iret (mi := mX11_lineOf) (pc := 115) dX11_lineOf_115 rfl (Nat.le_of_ble_eq_true rfl) (Nat.le_of_ble_eq_true rfl) h
    · replace h := h.2 c22
      refine vv_iload_n (mi := mX11_lineOf) (pc := 79) 1 dX11_lineOf_79 rfl rfl ?_
      refine vv_goto (mi := mX11_lineOf) (pc := 80) 95 dX11_lineOf_80 rfl ?_
      refine vv_istore (mi := mX11_lineOf) (pc := 95) [(5, .inl x1), (0, .inr (.inr (some this))), (1, .inl x1), (2, .inl x2), (3, .inr (.inl x3))] dX11_lineOf_95 (Nat.le_of_ble_eq_true rfl) rfl ?_
      refine vv_iload (mi := mX11_lineOf) (pc := 97) 0 dX11_lineOf_97 rfl ?_
      refine vv_iconst (mi := mX11_lineOf) (pc := 99) (-1) dX11_lineOf_99 rfl ?_
      refine vv_icmp_ne (mi := mX11_lineOf) (pc := 100) 107 dX11_lineOf_100 rfl (fun c33 => ?_) (fun c33 => ?_)
      · replace h := h.1 c33
        refine vv_aload_n (mi := mX11_lineOf) (pc := 107) 1 dX11_lineOf_107 rfl rfl ?_
        refine vv_iload (mi := mX11_lineOf) (pc := 108) 0 dX11_lineOf_108 rfl ?_
        refine vv_lload_n (mi := mX11_lineOf) (pc := 110) 4 dX11_lineOf_110 rfl rfl ?_
        refine vv_iload_n (mi := mX11_lineOf) (pc := 111) 3 dX11_lineOf_111 rfl rfl ?_
        refine vv_callV (mi := mX11_lineOf) (pc := 112) (rest := []) (As := [.inl x1, .inr (.inl x3), .inl x2]) (ctX11_lineOn (X := X) h) dX11_lineOf_112 rfl ht16 (Nat.le_of_ble_eq_true rfl) rfl mb_X11_lineOn rfl ml_X11_213 im_X11_lineOn se_X11_lineOn ⟨(Nat.le_of_ble_eq_true rfl), (Nat.le_of_ble_eq_true rfl)⟩ ⟨(Nat.le_of_ble_eq_true rfl), (Nat.le_of_ble_eq_true rfl)⟩ (Nat.le_of_ble_eq_true rfl) rfl (kI_ (F := fun st M' => VV X mX11_lineOf rX11_lineOf (pI_ post) 115 [(5, .inl x1), (0, .inr (.inr (some this))), (1, .inl x1), (2, .inl x2), (3, .inr (.inl x3))] st M' 0 0) (fun r34 M35 h => ?_))
        exact vv_iret (mi := mX11_lineOf) (pc := 115) dX11_lineOf_115 rfl (Nat.le_of_ble_eq_true rfl) (Nat.le_of_ble_eq_true rfl) h
      · replace h := h.2 c33
        refine vv_iconst (mi := mX11_lineOf) (pc := 103) (-1) dX11_lineOf_103 rfl ?_
        refine vv_goto (mi := mX11_lineOf) (pc := 104) 115 dX11_lineOf_104 rfl ?_
        exact vv_iret (mi := mX11_lineOf) (pc := 115) dX11_lineOf_115 rfl (Nat.le_of_ble_eq_true rfl) (Nat.le_of_ble_eq_true rfl) h
  · replace h := h.2 c17
    refine vv_ldc2 (mi := mX11_lineOf) (pc := 49) 10 dX11_lineOf_49 kl_X11_120 ?_
    refine vv_lload_n (mi := mX11_lineOf) (pc := 52) 3 dX11_lineOf_52 rfl rfl ?_
    refine vv_lmul (mi := mX11_lineOf) (pc := 53) dX11_lineOf_53 ?_
    refine vv_aload_n (mi := mX11_lineOf) (pc := 54) 0 dX11_lineOf_54 rfl rfl ?_
    refine vv_getR (mi := mX11_lineOf) (pc := 55) 11 31 rfl ht16 fl_X11_93 (Nat.le_of_ble_eq_true rfl) dX11_lineOf_55 ?_
    refine vv_iload (mi := mX11_lineOf) (pc := 58) 4 dX11_lineOf_58 rfl ?_
    obtain ⟨aq36, hs37, h⟩ := h
    obtain ⟨ht38, h⟩ := h
    obtain ⟨hi39, h⟩ := h
    refine vv_iald (mi := mX11_lineOf) (pc := 60) hs37 ht38 hi39 dX11_lineOf_60 ?_
    refine vv_i2l (mi := mX11_lineOf) (pc := 61) dX11_lineOf_61 ?_
    refine vv_ladd (mi := mX11_lineOf) (pc := 62) dX11_lineOf_62 ?_
    obtain ⟨v40, ev40⟩ : ∃ z : Int64, z = ((10 * x3) + (Int32.toInt64 (ddI M aq36 (Int32.toNatClampNeg x5)))) := ⟨_, rfl⟩
    refine vv_namL ev40 ?_
    replace h := h _ ev40
    refine vv_lstore_n (mi := mX11_lineOf) (pc := 63) [(3, .inr (.inl v40)), (0, .inr (.inr (some this))), (1, .inl x1), (2, .inl x2), (5, .inl x5)] dX11_lineOf_63 rfl (Nat.le_of_ble_eq_true rfl) rfl ?_
    refine vv_iinc (mi := mX11_lineOf) (pc := 64) (x5 + 1) 4 [(5, .inl (x5 + 1)), (3, .inr (.inl v40)), (0, .inr (.inr (some this))), (1, .inl x1), (2, .inl x2)] dX11_lineOf_64 rfl rfl (Nat.le_of_ble_eq_true rfl) rfl ?_
    refine vv_goto (mi := mX11_lineOf) (pc := 67) 40 dX11_lineOf_67 rfl ?_
    refine vv_sub (mi := mX11_lineOf) [(0, .inr (.inr (some this))), (1, .inl x1), (2, .inl x2), (3, .inr (.inl v40)), (5, .inl (x5 + 1))] [2, 3, 4, 1, 0] rfl ?_
    exact hb40 _ _ _ _ _ _ h
theorem loX11_lineOf_40 {X : Cx_}  {post : Int32 → Mm → Prop}  : ∀ (fu : Nat) {this : Nat} {x1 : Int32} {x2 : Int32} {x3 : Int64} {x5 : Int32} {M : Mm}, DX11_lineOf_40  post fu this x1 x2 x3 x5 M → VV X mX11_lineOf rX11_lineOf (pI_ post) 40 [(0, .inr (.inr (some this))), (1, .inl x1), (2, .inl x2), (3, .inr (.inl x3)), (5, .inl x5)] [] M 0 0
  | 0, _, _, _, _, _, _, h => False.elim h
  | fu + 1, _, _, _, _, _, _, h => bX11_lineOf_40 (fun this x1 x2 x3 x5 M h => loX11_lineOf_40  fu h) h
set_option maxHeartbeats 4000000 in
set_option maxRecDepth 100000 in
theorem ctX11_lineOf {X : Cx_} {this : Nat} {a1 : Int32} {a2 : Int32} {M : Mm} {post : Int32 → Mm → Prop} (h : PX11_lineOf this a1 a2 M post) : CT X mX11_lineOf rX11_lineOf [.inr (.inr (some this)), .inl a1, .inl a2] M (pI_ post) := by
  unfold PX11_lineOf at h
  refine CT.of (by decide +kernel) (Nat.le_of_ble_eq_true rfl) ?_
  show VV X mX11_lineOf rX11_lineOf (pI_ post) 0 [(0, .inr (.inr (some this))), (1, .inl a1), (2, .inl a2)] [] M 0 0
  refine vv_iload_n (mi := mX11_lineOf) (pc := 0) 1 dX11_lineOf_0 rfl rfl ?_
  refine vv_iconst (mi := mX11_lineOf) (pc := 1) (-1) dX11_lineOf_1 rfl ?_
  refine vv_icmp_eq (mi := mX11_lineOf) (pc := 2) 25 dX11_lineOf_2 rfl (fun c1 => ?_) (fun c1 => ?_)
  · replace h := h.1 c1
    refine vv_iconst (mi := mX11_lineOf) (pc := 25) (-1) dX11_lineOf_25 rfl ?_
    exact vv_iret (mi := mX11_lineOf) (pc := 26) dX11_lineOf_26 rfl (Nat.le_of_ble_eq_true rfl) (Nat.le_of_ble_eq_true rfl) h
  · replace h := h.2 c1
    refine vv_aload_n (mi := mX11_lineOf) (pc := 5) 0 dX11_lineOf_5 rfl rfl ?_
    obtain ⟨ht2, h⟩ := h
    refine vv_getR (mi := mX11_lineOf) (pc := 6) 11 2 rfl ht2 fl_X11_7 (Nat.le_of_ble_eq_true rfl) dX11_lineOf_6 ?_
    refine vv_iload_n (mi := mX11_lineOf) (pc := 9) 1 dX11_lineOf_9 rfl rfl ?_
    obtain ⟨aq3, hs4, h⟩ := h
    obtain ⟨ht5, h⟩ := h
    obtain ⟨hi6, h⟩ := h
    refine vv_iald (mi := mX11_lineOf) (pc := 10) hs4 ht5 hi6 dX11_lineOf_10 ?_
    refine vv_iconst (mi := mX11_lineOf) (pc := 11) 1 dX11_lineOf_11 rfl ?_
    refine vv_icmp_eq (mi := mX11_lineOf) (pc := 12) 25 dX11_lineOf_12 rfl (fun c7 => ?_) (fun c7 => ?_)
    · replace h := h.1 c7
      refine vv_iconst (mi := mX11_lineOf) (pc := 25) (-1) dX11_lineOf_25 rfl ?_
      exact vv_iret (mi := mX11_lineOf) (pc := 26) dX11_lineOf_26 rfl (Nat.le_of_ble_eq_true rfl) (Nat.le_of_ble_eq_true rfl) h
    · replace h := h.2 c7
      refine vv_aload_n (mi := mX11_lineOf) (pc := 15) 0 dX11_lineOf_15 rfl rfl ?_
      refine vv_getR (mi := mX11_lineOf) (pc := 16) 11 2 rfl ht2 fl_X11_7 (Nat.le_of_ble_eq_true rfl) dX11_lineOf_16 ?_
      refine vv_iload_n (mi := mX11_lineOf) (pc := 19) 1 dX11_lineOf_19 rfl rfl ?_
      obtain ⟨hi8, h⟩ := h
      refine vv_iald (mi := mX11_lineOf) (pc := 20) hs4 ht5 hi8 dX11_lineOf_20 ?_
      refine vv_iconst (mi := mX11_lineOf) (pc := 21) 2 dX11_lineOf_21 rfl ?_
      refine vv_icmp_ne (mi := mX11_lineOf) (pc := 22) 27 dX11_lineOf_22 rfl (fun c9 => ?_) (fun c9 => ?_)
      · replace h := h.1 c9
        refine vv_lconst (mi := mX11_lineOf) (pc := 27) 1 dX11_lineOf_27 rfl ?_
        refine vv_lstore_n (mi := mX11_lineOf) (pc := 28) [(3, .inr (.inl 1)), (0, .inr (.inr (some this))), (1, .inl a1), (2, .inl a2)] dX11_lineOf_28 rfl (Nat.le_of_ble_eq_true rfl) rfl ?_
        refine vv_aload_n (mi := mX11_lineOf) (pc := 29) 1 dX11_lineOf_29 rfl rfl ?_
        refine vv_getR (mi := mX11_lineOf) (pc := 30) 11 4 rfl ht2 fl_X11_16 (Nat.le_of_ble_eq_true rfl) dX11_lineOf_30 ?_
        refine vv_iload_n (mi := mX11_lineOf) (pc := 33) 2 dX11_lineOf_33 rfl rfl ?_
        obtain ⟨aq10, hs11, h⟩ := h
        obtain ⟨ht12, h⟩ := h
        obtain ⟨hi13, h⟩ := h
        refine vv_iald (mi := mX11_lineOf) (pc := 34) hs11 ht12 hi13 dX11_lineOf_34 ?_
        refine vv_callS (mi := mX11_lineOf) (pc := 35) (rest := []) (As := [.inl (ddI M aq10 (Int32.toNatClampNeg a1))]) (ctX11_lengthOf (X := X) h) dX11_lineOf_35 mb_X11_lengthOf rfl ml_X11_139 sc_X11_lengthOf ⟨(Nat.le_of_ble_eq_true rfl), (Nat.le_of_ble_eq_true rfl)⟩ ⟨(Nat.le_of_ble_eq_true rfl), (Nat.le_of_ble_eq_true rfl)⟩ (Nat.le_of_ble_eq_true rfl) rfl (kI_ (F := fun st M' => VV X mX11_lineOf rX11_lineOf (pI_ post) 38 [(3, .inr (.inl 1)), (0, .inr (.inr (some this))), (1, .inl a1), (2, .inl a2)] st M' 0 0) (fun r14 M15 h => ?_))
        refine vv_istore (mi := mX11_lineOf) (pc := 38) [(5, .inl r14), (3, .inr (.inl 1)), (0, .inr (.inr (some this))), (1, .inl a1), (2, .inl a2)] dX11_lineOf_38 (Nat.le_of_ble_eq_true rfl) rfl ?_
        refine vv_sub (mi := mX11_lineOf) [(0, .inr (.inr (some this))), (1, .inl a1), (2, .inl a2), (3, .inr (.inl 1)), (5, .inl r14)] [2, 3, 4, 1, 0] rfl ?_
        obtain ⟨fu, h⟩ := h
        exact loX11_lineOf_40 (X := X)  fu h
      · replace h := h.2 c9
        refine vv_iconst (mi := mX11_lineOf) (pc := 25) (-1) dX11_lineOf_25 rfl ?_
        exact vv_iret (mi := mX11_lineOf) (pc := 26) dX11_lineOf_26 rfl (Nat.le_of_ble_eq_true rfl) (Nat.le_of_ble_eq_true rfl) h
set_option maxHeartbeats 4000000 in
set_option maxRecDepth 100000 in
theorem bX11_behind_4 {X : Cx_} {kb4 : Nat → Int32 → Int32 → Int32 → Mm → Prop} {post : Int32 → Mm → Prop} (hb4 : ∀ (this : Nat) (x1 : Int32) (x2 : Int32) (x3 : Int32) (M : Mm), kb4 this x1 x2 x3 M → VV X mX11_behind rX11_behind (pI_ post) 4 [(0, .inr (.inr (some this))), (1, .inl x1), (2, .inl x2), (3, .inl x3)] [] M 0 0) {this : Nat} {x1 : Int32} {x2 : Int32} {x3 : Int32} {M : Mm} (h : BX11_behind_4 kb4 post this x1 x2 x3 M) : VV X mX11_behind rX11_behind (pI_ post) 4 [(0, .inr (.inr (some this))), (1, .inl x1), (2, .inl x2), (3, .inl x3)] [] M 0 0 := by
  unfold BX11_behind_4 at h
  refine vv_iload_n (mi := mX11_behind) (pc := 4) 3 dX11_behind_4 rfl rfl ?_
  refine vv_aload_n (mi := mX11_behind) (pc := 5) 0 dX11_behind_5 rfl rfl ?_
  obtain ⟨ht1, h⟩ := h
  refine vv_getI (mi := mX11_behind) (pc := 6) 11 1 rfl ht1 fl_X11_130 (Nat.le_of_ble_eq_true rfl) dX11_behind_6 ?_
  refine vv_icmp_ge (mi := mX11_behind) (pc := 9) 47 dX11_behind_9 rfl (fun c2 => ?_) (fun c2 => ?_)
  · replace h := h.1 c2
    refine vv_iload_n (mi := mX11_behind) (pc := 47) 2 dX11_behind_47 rfl rfl ?_
    exact vv_iret (mi := mX11_behind) (pc := 48) dX11_behind_48 rfl (Nat.le_of_ble_eq_true rfl) (Nat.le_of_ble_eq_true rfl) h
  · replace h := h.2 c2
    refine vv_aload_n (mi := mX11_behind) (pc := 12) 0 dX11_behind_12 rfl rfl ?_
    refine vv_iload_n (mi := mX11_behind) (pc := 13) 3 dX11_behind_13 rfl rfl ?_
    refine vv_iload_n (mi := mX11_behind) (pc := 14) 1 dX11_behind_14 rfl rfl ?_
    refine vv_callV (mi := mX11_behind) (pc := 15) (rest := []) (As := [.inl x3, .inl x1]) (ctX11_isForce (X := X) h) dX11_behind_15 rfl ht1 (Nat.le_of_ble_eq_true rfl) rfl mb_X11_isForce rfl ml_X11_197 im_X11_isForce se_X11_isForce ⟨(Nat.le_of_ble_eq_true rfl), (Nat.le_of_ble_eq_true rfl)⟩ ⟨(Nat.le_of_ble_eq_true rfl), (Nat.le_of_ble_eq_true rfl)⟩ (Nat.le_of_ble_eq_true rfl) rfl (kI_ (F := fun st M' => VV X mX11_behind rX11_behind (pI_ post) 18 [(0, .inr (.inr (some this))), (1, .inl x1), (2, .inl x2), (3, .inl x3)] st M' 0 0) (fun r3 M4 h => ?_))
    refine vv_if_eq (mi := mX11_behind) (pc := 18) 41 dX11_behind_18 rfl (fun c5 => ?_) (fun c5 => ?_)
    · replace h := h.1 c5
      refine vv_iinc (mi := mX11_behind) (pc := 41) (x3 + 1) 3 [(3, .inl (x3 + 1)), (0, .inr (.inr (some this))), (1, .inl x1), (2, .inl x2)] dX11_behind_41 rfl rfl (Nat.le_of_ble_eq_true rfl) rfl ?_
      refine vv_goto (mi := mX11_behind) (pc := 44) 4 dX11_behind_44 rfl ?_
      refine vv_sub (mi := mX11_behind) [(0, .inr (.inr (some this))), (1, .inl x1), (2, .inl x2), (3, .inl (x3 + 1))] [1, 2, 3, 0] rfl ?_
      exact hb4 _ _ _ _ _ h
    · replace h := h.2 c5
      refine vv_aload_n (mi := mX11_behind) (pc := 21) 0 dX11_behind_21 rfl rfl ?_
      refine vv_iload_n (mi := mX11_behind) (pc := 22) 3 dX11_behind_22 rfl rfl ?_
      obtain ⟨ht6, h⟩ := h
      refine vv_callV (mi := mX11_behind) (pc := 23) (rest := []) (As := [.inl x3]) (ctX11_goesOn (X := X) h) dX11_behind_23 rfl ht6 (Nat.le_of_ble_eq_true rfl) rfl mb_X11_goesOn rfl ml_X11_245 im_X11_goesOn se_X11_goesOn ⟨(Nat.le_of_ble_eq_true rfl), (Nat.le_of_ble_eq_true rfl)⟩ ⟨(Nat.le_of_ble_eq_true rfl), (Nat.le_of_ble_eq_true rfl)⟩ (Nat.le_of_ble_eq_true rfl) rfl (kI_ (F := fun st M' => VV X mX11_behind rX11_behind (pI_ post) 26 [(0, .inr (.inr (some this))), (1, .inl x1), (2, .inl x2), (3, .inl x3)] st M' 0 0) (fun r7 M8 h => ?_))
      refine vv_if_eq (mi := mX11_behind) (pc := 26) 41 dX11_behind_26 rfl (fun c9 => ?_) (fun c9 => ?_)
      · replace h := h.1 c9
        refine vv_iinc (mi := mX11_behind) (pc := 41) (x3 + 1) 3 [(3, .inl (x3 + 1)), (0, .inr (.inr (some this))), (1, .inl x1), (2, .inl x2)] dX11_behind_41 rfl rfl (Nat.le_of_ble_eq_true rfl) rfl ?_
        refine vv_goto (mi := mX11_behind) (pc := 44) 4 dX11_behind_44 rfl ?_
        refine vv_sub (mi := mX11_behind) [(0, .inr (.inr (some this))), (1, .inl x1), (2, .inl x2), (3, .inl (x3 + 1))] [1, 2, 3, 0] rfl ?_
        exact hb4 _ _ _ _ _ h
      · replace h := h.2 c9
        refine vv_iload_n (mi := mX11_behind) (pc := 29) 2 dX11_behind_29 rfl rfl ?_
        refine vv_aload_n (mi := mX11_behind) (pc := 30) 0 dX11_behind_30 rfl rfl ?_
        refine vv_iload_n (mi := mX11_behind) (pc := 31) 3 dX11_behind_31 rfl rfl ?_
        refine vv_aload_n (mi := mX11_behind) (pc := 32) 0 dX11_behind_32 rfl rfl ?_
        obtain ⟨ht10, h⟩ := h
        refine vv_getI (mi := mX11_behind) (pc := 33) 11 32 rfl ht10 fl_X11_236 (Nat.le_of_ble_eq_true rfl) dX11_behind_33 ?_
        refine vv_callV (mi := mX11_behind) (pc := 36) (rest := [.inl x2]) (As := [.inl x3, .inl (ddI M8 this 32)]) (ctX11_may (X := X) h) dX11_behind_36 rfl ht10 (Nat.le_of_ble_eq_true rfl) rfl mb_X11_may rfl ml_X11_187 im_X11_may se_X11_may ⟨(Nat.le_of_ble_eq_true rfl), (Nat.le_of_ble_eq_true rfl)⟩ ⟨(Nat.le_of_ble_eq_true rfl), (Nat.le_of_ble_eq_true rfl)⟩ (Nat.le_of_ble_eq_true rfl) rfl (kI_ (F := fun st M' => VV X mX11_behind rX11_behind (pI_ post) 39 [(0, .inr (.inr (some this))), (1, .inl x1), (2, .inl x2), (3, .inl x3)] st M' 0 0) (fun r11 M12 h => ?_))
        refine vv_ior (mi := mX11_behind) (pc := 39) dX11_behind_39 ?_
        obtain ⟨v13, ev13⟩ : ∃ z : Int32, z = (x2 ||| r11) := ⟨_, rfl⟩
        refine vv_namI ev13 ?_
        replace h := h _ ev13
        refine vv_istore_n (mi := mX11_behind) (pc := 40) [(2, .inl v13), (0, .inr (.inr (some this))), (1, .inl x1), (3, .inl x3)] dX11_behind_40 rfl (Nat.le_of_ble_eq_true rfl) rfl ?_
        refine vv_iinc (mi := mX11_behind) (pc := 41) (x3 + 1) 3 [(3, .inl (x3 + 1)), (2, .inl v13), (0, .inr (.inr (some this))), (1, .inl x1)] dX11_behind_41 rfl rfl (Nat.le_of_ble_eq_true rfl) rfl ?_
        refine vv_goto (mi := mX11_behind) (pc := 44) 4 dX11_behind_44 rfl ?_
        refine vv_sub (mi := mX11_behind) [(0, .inr (.inr (some this))), (1, .inl x1), (2, .inl v13), (3, .inl (x3 + 1))] [2, 3, 1, 0] rfl ?_
        exact hb4 _ _ _ _ _ h
theorem loX11_behind_4 {X : Cx_}  {post : Int32 → Mm → Prop}  : ∀ (fu : Nat) {this : Nat} {x1 : Int32} {x2 : Int32} {x3 : Int32} {M : Mm}, DX11_behind_4  post fu this x1 x2 x3 M → VV X mX11_behind rX11_behind (pI_ post) 4 [(0, .inr (.inr (some this))), (1, .inl x1), (2, .inl x2), (3, .inl x3)] [] M 0 0
  | 0, _, _, _, _, _, h => False.elim h
  | fu + 1, _, _, _, _, _, h => bX11_behind_4 (fun this x1 x2 x3 M h => loX11_behind_4  fu h) h
set_option maxHeartbeats 4000000 in
set_option maxRecDepth 100000 in
theorem ctX11_behind {X : Cx_} {this : Nat} {a1 : Int32} {M : Mm} {post : Int32 → Mm → Prop} (h : PX11_behind this a1 M post) : CT X mX11_behind rX11_behind [.inr (.inr (some this)), .inl a1] M (pI_ post) := by
  unfold PX11_behind at h
  refine CT.of (by decide +kernel) (Nat.le_of_ble_eq_true rfl) ?_
  show VV X mX11_behind rX11_behind (pI_ post) 0 [(0, .inr (.inr (some this))), (1, .inl a1)] [] M 0 0
  refine vv_iconst (mi := mX11_behind) (pc := 0) 0 dX11_behind_0 rfl ?_
  refine vv_istore_n (mi := mX11_behind) (pc := 1) [(2, .inl 0), (0, .inr (.inr (some this))), (1, .inl a1)] dX11_behind_1 rfl (Nat.le_of_ble_eq_true rfl) rfl ?_
  refine vv_iconst (mi := mX11_behind) (pc := 2) 0 dX11_behind_2 rfl ?_
  refine vv_istore_n (mi := mX11_behind) (pc := 3) [(3, .inl 0), (2, .inl 0), (0, .inr (.inr (some this))), (1, .inl a1)] dX11_behind_3 rfl (Nat.le_of_ble_eq_true rfl) rfl ?_
  refine vv_sub (mi := mX11_behind) [(0, .inr (.inr (some this))), (1, .inl a1), (2, .inl 0), (3, .inl 0)] [2, 3, 1, 0] rfl ?_
  obtain ⟨fu, h⟩ := h
  exact loX11_behind_4 (X := X)  fu h
