set_option maxHeartbeats 4000000 in
set_option maxRecDepth 100000 in
theorem bX11_toCome_66 {X : Cx_} {kb5 : Nat → Int32 → Int32 → Int32 → Int32 → Mm → Prop} {post : Int32 → Mm → Prop} (hb5 : ∀ (this : Nat) (x1 : Int32) (x2 : Int32) (x3 : Int32) (x4 : Int32) (M : Mm), kb5 this x1 x2 x3 x4 M → VV X mX11_toCome rX11_toCome (pI_ post) 5 [(0, .inr (.inr (some this))), (1, .inl x1), (2, .inl x2), (3, .inl x3), (4, .inl x4)] [] M 0 0) {this : Nat} {x1 : Int32} {x2 : Int32} {x3 : Int32} {x4 : Int32} {s0 : Int32} {M : Mm} (h : BX11_toCome_66 kb5 post this x1 x2 x3 x4 s0 M) : VV X mX11_toCome rX11_toCome (pI_ post) 66 [(0, .inr (.inr (some this))), (1, .inl x1), (2, .inl x2), (3, .inl x3), (4, .inl x4)] [.inl s0] M 0 0 := by
  unfold BX11_toCome_66 at h
  refine vv_istore (mi := mX11_toCome) (pc := 66) [(5, .inl s0), (0, .inr (.inr (some this))), (1, .inl x1), (2, .inl x2), (3, .inl x3), (4, .inl x4)] dX11_toCome_66 (Nat.le_of_ble_eq_true rfl) rfl ?_
  refine vv_aload_n (mi := mX11_toCome) (pc := 68) 1 dX11_toCome_68 rfl rfl ?_
  obtain ⟨ht17, h⟩ := h
  refine vv_getR (mi := mX11_toCome) (pc := 69) 11 7 rfl ht17 fl_X11_25 (Nat.le_of_ble_eq_true rfl) dX11_toCome_69 ?_
  refine vv_iload (mi := mX11_toCome) (pc := 72) 5 dX11_toCome_72 rfl ?_
  obtain ⟨aq18, hs19, h⟩ := h
  obtain ⟨ht20, h⟩ := h
  obtain ⟨hi21, h⟩ := h
  refine vv_iald (mi := mX11_toCome) (pc := 74) hs19 ht20 hi21 dX11_toCome_74 ?_
  refine vv_aload_n (mi := mX11_toCome) (pc := 75) 1 dX11_toCome_75 rfl rfl ?_
  refine vv_getI (mi := mX11_toCome) (pc := 76) 11 32 rfl ht17 fl_X11_236 (Nat.le_of_ble_eq_true rfl) dX11_toCome_76 ?_
  refine vv_isub (mi := mX11_toCome) (pc := 79) dX11_toCome_79 ?_
  obtain ⟨v22, ev22⟩ : ∃ z : Int32, z = ((ddI M aq18 (Int32.toNatClampNeg x4)) - (ddI M this 32)) := ⟨_, rfl⟩
  refine vv_namI ev22 ?_
  replace h := h _ ev22
  refine vv_istore (mi := mX11_toCome) (pc := 80) [(6, .inl v22), (5, .inl s0), (0, .inr (.inr (some this))), (1, .inl x1), (2, .inl x2), (3, .inl x3), (4, .inl x4)] dX11_toCome_80 (Nat.le_of_ble_eq_true rfl) rfl ?_
  refine vv_iload_n (mi := mX11_toCome) (pc := 82) 4 dX11_toCome_82 rfl rfl ?_
  refine vv_if_eq (mi := mX11_toCome) (pc := 83) 107 dX11_toCome_83 rfl (fun c23 => ?_) (fun c23 => ?_)
  · replace h := h.1 c23
    refine vv_iload (mi := mX11_toCome) (pc := 107) 0 dX11_toCome_107 rfl ?_
    refine vv_iload_n (mi := mX11_toCome) (pc := 109) 5 dX11_toCome_109 rfl rfl ?_
    refine vv_icmp_le (mi := mX11_toCome) (pc := 110) 118 dX11_toCome_110 rfl (fun c24 => ?_) (fun c24 => ?_)
    · replace h := h.1 c24
      refine vv_iload_n (mi := mX11_toCome) (pc := 118) 5 dX11_toCome_118 rfl rfl ?_
      refine vv_istore_n (mi := mX11_toCome) (pc := 119) [(3, .inl x3), (6, .inl v22), (5, .inl s0), (0, .inr (.inr (some this))), (1, .inl x1), (2, .inl x2), (4, .inl x4)] dX11_toCome_119 rfl (Nat.le_of_ble_eq_true rfl) rfl ?_
      refine vv_iinc (mi := mX11_toCome) (pc := 120) (x4 + 1) 6 [(4, .inl (x4 + 1)), (3, .inl x3), (6, .inl v22), (5, .inl s0), (0, .inr (.inr (some this))), (1, .inl x1), (2, .inl x2)] dX11_toCome_120 rfl rfl (Nat.le_of_ble_eq_true rfl) rfl ?_
      refine vv_goto (mi := mX11_toCome) (pc := 123) 5 dX11_toCome_123 rfl ?_
      refine vv_sub (mi := mX11_toCome) [(0, .inr (.inr (some this))), (1, .inl x1), (2, .inl x2), (3, .inl x3), (4, .inl (x4 + 1))] [4, 5, 6, 1, 0] rfl ?_
      exact hb5 _ _ _ _ _ _ h
    · replace h := h.2 c24
      refine vv_iload (mi := mX11_toCome) (pc := 113) 0 dX11_toCome_113 rfl ?_
      refine vv_goto (mi := mX11_toCome) (pc := 115) 119 dX11_toCome_115 rfl ?_
      refine vv_istore_n (mi := mX11_toCome) (pc := 119) [(3, .inl v22), (6, .inl v22), (5, .inl s0), (0, .inr (.inr (some this))), (1, .inl x1), (2, .inl x2), (4, .inl x4)] dX11_toCome_119 rfl (Nat.le_of_ble_eq_true rfl) rfl ?_
      refine vv_iinc (mi := mX11_toCome) (pc := 120) (x4 + 1) 6 [(4, .inl (x4 + 1)), (3, .inl v22), (6, .inl v22), (5, .inl s0), (0, .inr (.inr (some this))), (1, .inl x1), (2, .inl x2)] dX11_toCome_120 rfl rfl (Nat.le_of_ble_eq_true rfl) rfl ?_
      refine vv_goto (mi := mX11_toCome) (pc := 123) 5 dX11_toCome_123 rfl ?_
      refine vv_sub (mi := mX11_toCome) [(0, .inr (.inr (some this))), (1, .inl x1), (2, .inl x2), (3, .inl v22), (4, .inl (x4 + 1))] [4, 5, 6, 1, 0] rfl ?_
      exact hb5 _ _ _ _ _ _ h
  · replace h := h.2 c23
    refine vv_iload_n (mi := mX11_toCome) (pc := 86) 5 dX11_toCome_86 rfl rfl ?_
    refine vv_iconst (mi := mX11_toCome) (pc := 87) (-1) dX11_toCome_87 rfl ?_
    refine vv_icmp_eq (mi := mX11_toCome) (pc := 88) 97 dX11_toCome_88 rfl (fun c25 => ?_) (fun c25 => ?_)
    · replace h := h.1 c25
      refine vv_iload (mi := mX11_toCome) (pc := 97) 1 dX11_toCome_97 rfl ?_
      refine vv_goto (mi := mX11_toCome) (pc := 99) 103 dX11_toCome_99 rfl ?_
      refine vv_istore_n (mi := mX11_toCome) (pc := 103) [(3, .inl s0), (6, .inl v22), (5, .inl s0), (0, .inr (.inr (some this))), (1, .inl x1), (2, .inl x2), (4, .inl x4)] dX11_toCome_103 rfl (Nat.le_of_ble_eq_true rfl) rfl ?_
      refine vv_goto (mi := mX11_toCome) (pc := 104) 120 dX11_toCome_104 rfl ?_
      refine vv_iinc (mi := mX11_toCome) (pc := 120) (x4 + 1) 6 [(4, .inl (x4 + 1)), (3, .inl s0), (6, .inl v22), (5, .inl s0), (0, .inr (.inr (some this))), (1, .inl x1), (2, .inl x2)] dX11_toCome_120 rfl rfl (Nat.le_of_ble_eq_true rfl) rfl ?_
      refine vv_goto (mi := mX11_toCome) (pc := 123) 5 dX11_toCome_123 rfl ?_
      refine vv_sub (mi := mX11_toCome) [(0, .inr (.inr (some this))), (1, .inl x1), (2, .inl x2), (3, .inl s0), (4, .inl (x4 + 1))] [4, 5, 6, 1, 0] rfl ?_
      exact hb5 _ _ _ _ _ _ h
    · replace h := h.2 c25
      refine vv_iload (mi := mX11_toCome) (pc := 91) 1 dX11_toCome_91 rfl ?_
      refine vv_iload_n (mi := mX11_toCome) (pc := 93) 5 dX11_toCome_93 rfl rfl ?_
      refine vv_icmp_ge (mi := mX11_toCome) (pc := 94) 102 dX11_toCome_94 rfl (fun c26 => ?_) (fun c26 => ?_)
      · replace h := h.1 c26
        refine vv_iload_n (mi := mX11_toCome) (pc := 102) 5 dX11_toCome_102 rfl rfl ?_
        refine vv_istore_n (mi := mX11_toCome) (pc := 103) [(3, .inl x3), (6, .inl v22), (5, .inl s0), (0, .inr (.inr (some this))), (1, .inl x1), (2, .inl x2), (4, .inl x4)] dX11_toCome_103 rfl (Nat.le_of_ble_eq_true rfl) rfl ?_
        refine vv_goto (mi := mX11_toCome) (pc := 104) 120 dX11_toCome_104 rfl ?_
        refine vv_iinc (mi := mX11_toCome) (pc := 120) (x4 + 1) 6 [(4, .inl (x4 + 1)), (3, .inl x3), (6, .inl v22), (5, .inl s0), (0, .inr (.inr (some this))), (1, .inl x1), (2, .inl x2)] dX11_toCome_120 rfl rfl (Nat.le_of_ble_eq_true rfl) rfl ?_
        refine vv_goto (mi := mX11_toCome) (pc := 123) 5 dX11_toCome_123 rfl ?_
        refine vv_sub (mi := mX11_toCome) [(0, .inr (.inr (some this))), (1, .inl x1), (2, .inl x2), (3, .inl x3), (4, .inl (x4 + 1))] [4, 5, 6, 1, 0] rfl ?_
        exact hb5 _ _ _ _ _ _ h
      · replace h := h.2 c26
        refine vv_iload (mi := mX11_toCome) (pc := 97) 1 dX11_toCome_97 rfl ?_
        refine vv_goto (mi := mX11_toCome) (pc := 99) 103 dX11_toCome_99 rfl ?_
        refine vv_istore_n (mi := mX11_toCome) (pc := 103) [(3, .inl s0), (6, .inl v22), (5, .inl s0), (0, .inr (.inr (some this))), (1, .inl x1), (2, .inl x2), (4, .inl x4)] dX11_toCome_103 rfl (Nat.le_of_ble_eq_true rfl) rfl ?_
        refine vv_goto (mi := mX11_toCome) (pc := 104) 120 dX11_toCome_104 rfl ?_
        refine vv_iinc (mi := mX11_toCome) (pc := 120) (x4 + 1) 6 [(4, .inl (x4 + 1)), (3, .inl s0), (6, .inl v22), (5, .inl s0), (0, .inr (.inr (some this))), (1, .inl x1), (2, .inl x2)] dX11_toCome_120 rfl rfl (Nat.le_of_ble_eq_true rfl) rfl ?_
        refine vv_goto (mi := mX11_toCome) (pc := 123) 5 dX11_toCome_123 rfl ?_
        refine vv_sub (mi := mX11_toCome) [(0, .inr (.inr (some this))), (1, .inl x1), (2, .inl x2), (3, .inl s0), (4, .inl (x4 + 1))] [4, 5, 6, 1, 0] rfl ?_
        exact hb5 _ _ _ _ _ _ h
set_option maxHeartbeats 4000000 in
set_option maxRecDepth 100000 in
theorem bX11_toCome_5 {X : Cx_} {kb5 : Nat → Int32 → Int32 → Int32 → Int32 → Mm → Prop} {post : Int32 → Mm → Prop} (hb5 : ∀ (this : Nat) (x1 : Int32) (x2 : Int32) (x3 : Int32) (x4 : Int32) (M : Mm), kb5 this x1 x2 x3 x4 M → VV X mX11_toCome rX11_toCome (pI_ post) 5 [(0, .inr (.inr (some this))), (1, .inl x1), (2, .inl x2), (3, .inl x3), (4, .inl x4)] [] M 0 0) {this : Nat} {x1 : Int32} {x2 : Int32} {x3 : Int32} {x4 : Int32} {M : Mm} (h : BX11_toCome_5 kb5 post this x1 x2 x3 x4 M) : VV X mX11_toCome rX11_toCome (pI_ post) 5 [(0, .inr (.inr (some this))), (1, .inl x1), (2, .inl x2), (3, .inl x3), (4, .inl x4)] [] M 0 0 := by
  unfold BX11_toCome_5 at h
  refine vv_iload (mi := mX11_toCome) (pc := 5) 4 dX11_toCome_5 rfl ?_
  refine vv_aload_n (mi := mX11_toCome) (pc := 7) 0 dX11_toCome_7 rfl rfl ?_
  obtain ⟨ht1, h⟩ := h
  refine vv_getI (mi := mX11_toCome) (pc := 8) 11 1 rfl ht1 fl_X11_130 (Nat.le_of_ble_eq_true rfl) dX11_toCome_8 ?_
  refine vv_icmp_ge (mi := mX11_toCome) (pc := 11) 126 dX11_toCome_11 rfl (fun c2 => ?_) (fun c2 => ?_)
  · replace h := h.1 c2
    refine vv_iload_n (mi := mX11_toCome) (pc := 126) 3 dX11_toCome_126 rfl rfl ?_
    exact vv_iret (mi := mX11_toCome) (pc := 127) dX11_toCome_127 rfl (Nat.le_of_ble_eq_true rfl) (Nat.le_of_ble_eq_true rfl) h
  · replace h := h.2 c2
    refine vv_aload_n (mi := mX11_toCome) (pc := 14) 0 dX11_toCome_14 rfl rfl ?_
    refine vv_iload (mi := mX11_toCome) (pc := 15) 4 dX11_toCome_15 rfl ?_
    refine vv_iload_n (mi := mX11_toCome) (pc := 17) 1 dX11_toCome_17 rfl rfl ?_
    refine vv_callV (mi := mX11_toCome) (pc := 18) (rest := []) (As := [.inl x4, .inl x1]) (ctX11_isForce (X := X) h) dX11_toCome_18 rfl ht1 (Nat.le_of_ble_eq_true rfl) rfl mb_X11_isForce rfl ml_X11_197 im_X11_isForce se_X11_isForce ⟨(Nat.le_of_ble_eq_true rfl), (Nat.le_of_ble_eq_true rfl)⟩ ⟨(Nat.le_of_ble_eq_true rfl), (Nat.le_of_ble_eq_true rfl)⟩ (Nat.le_of_ble_eq_true rfl) rfl (kI_ (F := fun st M' => VV X mX11_toCome rX11_toCome (pI_ post) 21 [(0, .inr (.inr (some this))), (1, .inl x1), (2, .inl x2), (3, .inl x3), (4, .inl x4)] st M' 0 0) (fun r3 M4 h => ?_))
    refine vv_if_eq (mi := mX11_toCome) (pc := 21) 120 dX11_toCome_21 rfl (fun c5 => ?_) (fun c5 => ?_)
    · replace h := h.1 c5
      refine vv_iinc (mi := mX11_toCome) (pc := 120) (x4 + 1) 4 [(4, .inl (x4 + 1)), (0, .inr (.inr (some this))), (1, .inl x1), (2, .inl x2), (3, .inl x3)] dX11_toCome_120 rfl rfl (Nat.le_of_ble_eq_true rfl) rfl ?_
      refine vv_goto (mi := mX11_toCome) (pc := 123) 5 dX11_toCome_123 rfl ?_
      refine vv_sub (mi := mX11_toCome) [(0, .inr (.inr (some this))), (1, .inl x1), (2, .inl x2), (3, .inl x3), (4, .inl (x4 + 1))] [1, 2, 3, 4, 0] rfl ?_
      exact hb5 _ _ _ _ _ _ h
    · replace h := h.2 c5
      refine vv_aload_n (mi := mX11_toCome) (pc := 24) 0 dX11_toCome_24 rfl rfl ?_
      refine vv_iload (mi := mX11_toCome) (pc := 25) 4 dX11_toCome_25 rfl ?_
      obtain ⟨ht6, h⟩ := h
      refine vv_callV (mi := mX11_toCome) (pc := 27) (rest := []) (As := [.inl x4]) (ctX11_goesOn (X := X) h) dX11_toCome_27 rfl ht6 (Nat.le_of_ble_eq_true rfl) rfl mb_X11_goesOn rfl ml_X11_245 im_X11_goesOn se_X11_goesOn ⟨(Nat.le_of_ble_eq_true rfl), (Nat.le_of_ble_eq_true rfl)⟩ ⟨(Nat.le_of_ble_eq_true rfl), (Nat.le_of_ble_eq_true rfl)⟩ (Nat.le_of_ble_eq_true rfl) rfl (kI_ (F := fun st M' => VV X mX11_toCome rX11_toCome (pI_ post) 30 [(0, .inr (.inr (some this))), (1, .inl x1), (2, .inl x2), (3, .inl x3), (4, .inl x4)] st M' 0 0) (fun r7 M8 h => ?_))
      refine vv_if_ne (mi := mX11_toCome) (pc := 30) 36 dX11_toCome_30 rfl (fun c9 => ?_) (fun c9 => ?_)
      · replace h := h.1 c9
        refine vv_aload_n (mi := mX11_toCome) (pc := 36) 0 dX11_toCome_36 rfl rfl ?_
        obtain ⟨ht10, h⟩ := h
        refine vv_getR (mi := mX11_toCome) (pc := 37) 11 6 rfl ht10 fl_X11_22 (Nat.le_of_ble_eq_true rfl) dX11_toCome_37 ?_
        refine vv_iload (mi := mX11_toCome) (pc := 40) 4 dX11_toCome_40 rfl ?_
        obtain ⟨aq11, hs12, h⟩ := h
        obtain ⟨ht13, h⟩ := h
        obtain ⟨hi14, h⟩ := h
        refine vv_iald (mi := mX11_toCome) (pc := 42) hs12 ht13 hi14 dX11_toCome_42 ?_
        refine vv_aload_n (mi := mX11_toCome) (pc := 43) 0 dX11_toCome_43 rfl rfl ?_
        refine vv_getI (mi := mX11_toCome) (pc := 44) 11 32 rfl ht10 fl_X11_236 (Nat.le_of_ble_eq_true rfl) dX11_toCome_44 ?_
        refine vv_icmp_le (mi := mX11_toCome) (pc := 47) 65 dX11_toCome_47 rfl (fun c15 => ?_) (fun c15 => ?_)
        · replace h := h.1 c15
          refine vv_iconst (mi := mX11_toCome) (pc := 65) 1 dX11_toCome_65 rfl ?_
          refine vv_sub (mi := mX11_toCome) [(0, .inr (.inr (some this))), (1, .inl x1), (2, .inl x2), (3, .inl x3), (4, .inl x4)] [0, 1, 2, 3, 4] rfl ?_
          exact bX11_toCome_66 (X := X) hb5 h
        · replace h := h.2 c15
          refine vv_aload_n (mi := mX11_toCome) (pc := 50) 0 dX11_toCome_50 rfl rfl ?_
          refine vv_getR (mi := mX11_toCome) (pc := 51) 11 6 rfl ht10 fl_X11_22 (Nat.le_of_ble_eq_true rfl) dX11_toCome_51 ?_
          refine vv_iload (mi := mX11_toCome) (pc := 54) 4 dX11_toCome_54 rfl ?_
          obtain ⟨hi16, h⟩ := h
          refine vv_iald (mi := mX11_toCome) (pc := 56) hs12 ht13 hi16 dX11_toCome_56 ?_
          refine vv_aload_n (mi := mX11_toCome) (pc := 57) 0 dX11_toCome_57 rfl rfl ?_
          refine vv_getI (mi := mX11_toCome) (pc := 58) 11 32 rfl ht10 fl_X11_236 (Nat.le_of_ble_eq_true rfl) dX11_toCome_58 ?_
          refine vv_isub (mi := mX11_toCome) (pc := 61) dX11_toCome_61 ?_
          refine vv_goto (mi := mX11_toCome) (pc := 62) 66 dX11_toCome_62 rfl ?_
          refine vv_sub (mi := mX11_toCome) [(0, .inr (.inr (some this))), (1, .inl x1), (2, .inl x2), (3, .inl x3), (4, .inl x4)] [0, 1, 2, 3, 4] rfl ?_
          exact bX11_toCome_66 (X := X) hb5 h
      · replace h := h.2 c9
        refine vv_goto (mi := mX11_toCome) (pc := 33) 120 dX11_toCome_33 rfl ?_
        refine vv_iinc (mi := mX11_toCome) (pc := 120) (x4 + 1) 4 [(4, .inl (x4 + 1)), (0, .inr (.inr (some this))), (1, .inl x1), (2, .inl x2), (3, .inl x3)] dX11_toCome_120 rfl rfl (Nat.le_of_ble_eq_true rfl) rfl ?_
        refine vv_goto (mi := mX11_toCome) (pc := 123) 5 dX11_toCome_123 rfl ?_
        refine vv_sub (mi := mX11_toCome) [(0, .inr (.inr (some this))), (1, .inl x1), (2, .inl x2), (3, .inl x3), (4, .inl (x4 + 1))] [1, 2, 3, 4, 0] rfl ?_
        exact hb5 _ _ _ _ _ _ h
theorem loX11_toCome_5 {X : Cx_}  {post : Int32 → Mm → Prop}  : ∀ (fu : Nat) {this : Nat} {x1 : Int32} {x2 : Int32} {x3 : Int32} {x4 : Int32} {M : Mm}, DX11_toCome_5  post fu this x1 x2 x3 x4 M → VV X mX11_toCome rX11_toCome (pI_ post) 5 [(0, .inr (.inr (some this))), (1, .inl x1), (2, .inl x2), (3, .inl x3), (4, .inl x4)] [] M 0 0
  | 0, _, _, _, _, _, _, h => False.elim h
  | fu + 1, _, _, _, _, _, _, h => bX11_toCome_5 (fun this x1 x2 x3 x4 M h => loX11_toCome_5  fu h) h
set_option maxHeartbeats 4000000 in
set_option maxRecDepth 100000 in
theorem ctX11_toCome {X : Cx_} {this : Nat} {a1 : Int32} {a2 : Int32} {M : Mm} {post : Int32 → Mm → Prop} (h : PX11_toCome this a1 a2 M post) : CT X mX11_toCome rX11_toCome [.inr (.inr (some this)), .inl a1, .inl a2] M (pI_ post) := by
  unfold PX11_toCome at h
  refine CT.of (by decide +kernel) (Nat.le_of_ble_eq_true rfl) ?_
  show VV X mX11_toCome rX11_toCome (pI_ post) 0 [(0, .inr (.inr (some this))), (1, .inl a1), (2, .inl a2)] [] M 0 0
  refine vv_iconst (mi := mX11_toCome) (pc := 0) (-1) dX11_toCome_0 rfl ?_
  refine vv_istore_n (mi := mX11_toCome) (pc := 1) [(3, .inl (-1)), (0, .inr (.inr (some this))), (1, .inl a1), (2, .inl a2)] dX11_toCome_1 rfl (Nat.le_of_ble_eq_true rfl) rfl ?_
  refine vv_iconst (mi := mX11_toCome) (pc := 2) 0 dX11_toCome_2 rfl ?_
  refine vv_istore (mi := mX11_toCome) (pc := 3) [(4, .inl 0), (3, .inl (-1)), (0, .inr (.inr (some this))), (1, .inl a1), (2, .inl a2)] dX11_toCome_3 (Nat.le_of_ble_eq_true rfl) rfl ?_
  refine vv_sub (mi := mX11_toCome) [(0, .inr (.inr (some this))), (1, .inl a1), (2, .inl a2), (3, .inl (-1)), (4, .inl 0)] [2, 3, 4, 1, 0] rfl ?_
  obtain ⟨fu, h⟩ := h
  exact loX11_toCome_5 (X := X)  fu h
set_option maxHeartbeats 4000000 in
set_option maxRecDepth 100000 in
theorem bX11_told_223 {X : Cx_}  {post : Int32 → Mm → Prop}  {this : Nat} {x1 : Int32} {x2 : Int32} {x3 : Int32} {M : Mm} (h : BX11_told_223  post this x1 x2 x3 M) : VV X mX11_told rX11_told (pI_ post) 223 [(0, .inr (.inr (some this))), (1, .inl x1), (2, .inl x2), (3, .inl x3)] [] M 0 0 := by
  unfold BX11_told_223 at h
  refine vv_aload_n (mi := mX11_told) (pc := 223) 0 dX11_told_223 rfl rfl ?_
  obtain ⟨ht65, h⟩ := h
  refine vv_getR (mi := mX11_told) (pc := 224) 11 29 rfl ht65 fl_X11_86 (Nat.le_of_ble_eq_true rfl) dX11_told_224 ?_
  refine vv_iload_n (mi := mX11_told) (pc := 227) 1 dX11_told_227 rfl rfl ?_
  obtain ⟨aq66, hs67, h⟩ := h
  obtain ⟨ht68, h⟩ := h
  obtain ⟨hi69, h⟩ := h
  refine vv_zald (mi := mX11_told) (pc := 228) hs67 ht68 hi69 dX11_told_228 ?_
  refine vv_if_eq (mi := mX11_told) (pc := 229) 236 dX11_told_229 rfl (fun c70 => ?_) (fun c70 => ?_)
  · replace h := h.1 c70
    refine vv_aload_n (mi := mX11_told) (pc := 236) 0 dX11_told_236 rfl rfl ?_
    refine vv_iload_n (mi := mX11_told) (pc := 237) 3 dX11_told_237 rfl rfl ?_
    refine vv_iload_n (mi := mX11_told) (pc := 238) 2 dX11_told_238 rfl rfl ?_
    refine vv_bipush (mi := mX11_told) (pc := 239) 9 dX11_told_239 rfl ?_
    refine vv_icmp_ne (mi := mX11_told) (pc := 241) 248 dX11_told_241 rfl (fun c71 => ?_) (fun c71 => ?_)
    · replace h := h.1 c71
      refine vv_iconst (mi := mX11_told) (pc := 248) 0 dX11_told_248 rfl ?_
      refine vv_callV (mi := mX11_told) (pc := 249) (rest := []) (As := [.inl x3, .inl 0]) (ctX11_toCome (X := X) h) dX11_told_249 rfl ht65 (Nat.le_of_ble_eq_true rfl) rfl mb_X11_toCome rfl ml_X11_267 im_X11_toCome se_X11_toCome ⟨(Nat.le_of_ble_eq_true rfl), (Nat.le_of_ble_eq_true rfl)⟩ ⟨(Nat.le_of_ble_eq_true rfl), (Nat.le_of_ble_eq_true rfl)⟩ (Nat.le_of_ble_eq_true rfl) rfl (kI_ (F := fun st M' => VV X mX11_told rX11_told (pI_ post) 252 [(0, .inr (.inr (some this))), (1, .inl x1), (2, .inl x2), (3, .inl x3)] st M' 0 0) (fun r72 M73 h => ?_))
      exact vv_iret (mi := mX11_told) (pc := 252) dX11_told_252 rfl (Nat.le_of_ble_eq_true rfl) (Nat.le_of_ble_eq_true rfl) h
    · replace h := h.2 c71
      refine vv_iconst (mi := mX11_told) (pc := 244) 1 dX11_told_244 rfl ?_
      refine vv_goto (mi := mX11_told) (pc := 245) 249 dX11_told_245 rfl ?_
      refine vv_callV (mi := mX11_told) (pc := 249) (rest := []) (As := [.inl x3, .inl 1]) (ctX11_toCome (X := X) h) dX11_told_249 rfl ht65 (Nat.le_of_ble_eq_true rfl) rfl mb_X11_toCome rfl ml_X11_267 im_X11_toCome se_X11_toCome ⟨(Nat.le_of_ble_eq_true rfl), (Nat.le_of_ble_eq_true rfl)⟩ ⟨(Nat.le_of_ble_eq_true rfl), (Nat.le_of_ble_eq_true rfl)⟩ (Nat.le_of_ble_eq_true rfl) rfl (kI_ (F := fun st M' => VV X mX11_told rX11_told (pI_ post) 252 [(0, .inr (.inr (some this))), (1, .inl x1), (2, .inl x2), (3, .inl x3)] st M' 0 0) (fun r74 M75 h => ?_))
      exact vv_iret (mi := mX11_told) (pc := 252) dX11_told_252 rfl (Nat.le_of_ble_eq_true rfl) (Nat.le_of_ble_eq_true rfl) h
  · replace h := h.2 c70
    refine vv_iconst (mi := mX11_told) (pc := 232) (-1) dX11_told_232 rfl ?_
    refine vv_goto (mi := mX11_told) (pc := 233) 252 dX11_told_233 rfl ?_
    exact vv_iret (mi := mX11_told) (pc := 252) dX11_told_252 rfl (Nat.le_of_ble_eq_true rfl) (Nat.le_of_ble_eq_true rfl) h
set_option maxHeartbeats 4000000 in
set_option maxRecDepth 100000 in
theorem ctX11_told {X : Cx_} {this : Nat} {a1 : Int32} {a2 : Int32} {M : Mm} {post : Int32 → Mm → Prop} (h : PX11_told this a1 a2 M post) : CT X mX11_told rX11_told [.inr (.inr (some this)), .inl a1, .inl a2] M (pI_ post) := by
  unfold PX11_told at h
  refine CT.of (by decide +kernel) (Nat.le_of_ble_eq_true rfl) ?_
  show VV X mX11_told rX11_told (pI_ post) 0 [(0, .inr (.inr (some this))), (1, .inl a1), (2, .inl a2)] [] M 0 0
  refine vv_aload_n (mi := mX11_told) (pc := 0) 0 dX11_told_0 rfl rfl ?_
  refine vv_iload_n (mi := mX11_told) (pc := 1) 1 dX11_told_1 rfl rfl ?_
  obtain ⟨ht1, h⟩ := h
  refine vv_callV (mi := mX11_told) (pc := 2) (rest := []) (As := [.inl a1]) (ctX11_isCall (X := X) h) dX11_told_2 rfl ht1 (Nat.le_of_ble_eq_true rfl) rfl mb_X11_isCall rfl ml_X11_233 im_X11_isCall se_X11_isCall ⟨(Nat.le_of_ble_eq_true rfl), (Nat.le_of_ble_eq_true rfl)⟩ ⟨(Nat.le_of_ble_eq_true rfl), (Nat.le_of_ble_eq_true rfl)⟩ (Nat.le_of_ble_eq_true rfl) rfl (kI_ (F := fun st M' => VV X mX11_told rX11_told (pI_ post) 5 [(0, .inr (.inr (some this))), (1, .inl a1), (2, .inl a2)] st M' 0 0) (fun r2 M3 h => ?_))
  refine vv_if_eq (mi := mX11_told) (pc := 5) 17 dX11_told_5 rfl (fun c4 => ?_) (fun c4 => ?_)
  · replace h := h.1 c4
    refine vv_iconst (mi := mX11_told) (pc := 17) (-1) dX11_told_17 rfl ?_
    exact vv_iret (mi := mX11_told) (pc := 18) dX11_told_18 rfl (Nat.le_of_ble_eq_true rfl) (Nat.le_of_ble_eq_true rfl) h
  · replace h := h.2 c4
    refine vv_aload_n (mi := mX11_told) (pc := 8) 0 dX11_told_8 rfl rfl ?_
    obtain ⟨ht5, h⟩ := h
    refine vv_getR (mi := mX11_told) (pc := 9) 11 30 rfl ht5 fl_X11_90 (Nat.le_of_ble_eq_true rfl) dX11_told_9 ?_
    refine vv_iload_n (mi := mX11_told) (pc := 12) 1 dX11_told_12 rfl rfl ?_
    obtain ⟨aq6, hs7, h⟩ := h
    obtain ⟨ht8, h⟩ := h
    obtain ⟨hi9, h⟩ := h
    refine vv_zald (mi := mX11_told) (pc := 13) hs7 ht8 hi9 dX11_told_13 ?_
    refine vv_if_ne (mi := mX11_told) (pc := 14) 19 dX11_told_14 rfl (fun c10 => ?_) (fun c10 => ?_)
    · replace h := h.1 c10
      refine vv_aload_n (mi := mX11_told) (pc := 19) 0 dX11_told_19 rfl rfl ?_
      refine vv_iload_n (mi := mX11_told) (pc := 20) 1 dX11_told_20 rfl rfl ?_
      refine vv_callV (mi := mX11_told) (pc := 21) (rest := []) (As := [.inl a1]) (ctX11_takeCall (X := X) h) dX11_told_21 rfl ht5 (Nat.le_of_ble_eq_true rfl) rfl mb_X11_takeCall rfl ml_X11_248 im_X11_takeCall se_X11_takeCall ⟨(Nat.le_of_ble_eq_true rfl), (Nat.le_of_ble_eq_true rfl)⟩ ⟨(Nat.le_of_ble_eq_true rfl), (Nat.le_of_ble_eq_true rfl)⟩ (Nat.le_of_ble_eq_true rfl) rfl (kV_ (F := fun st M' => VV X mX11_told rX11_told (pI_ post) 24 [(0, .inr (.inr (some this))), (1, .inl a1), (2, .inl a2)] st M' 0 0) (fun M12 h => ?_))
      refine vv_aload_n (mi := mX11_told) (pc := 24) 0 dX11_told_24 rfl rfl ?_
      obtain ⟨ht13, h⟩ := h
      refine vv_getR (mi := mX11_told) (pc := 25) 11 25 rfl ht13 fl_X11_74 (Nat.le_of_ble_eq_true rfl) dX11_told_25 ?_
      refine vv_iload_n (mi := mX11_told) (pc := 28) 1 dX11_told_28 rfl rfl ?_
      obtain ⟨aq14, hs15, h⟩ := h
      obtain ⟨ht16, h⟩ := h
      obtain ⟨hi17, h⟩ := h
      refine vv_iald (mi := mX11_told) (pc := 29) hs15 ht16 hi17 dX11_told_29 ?_
      obtain ⟨v18, ev18⟩ : ∃ z : Int32, z = (ddI M12 aq14 (Int32.toNatClampNeg a1)) := ⟨_, rfl⟩
      refine vv_namI ev18 ?_
      replace h := h _ ev18
      refine vv_istore_n (mi := mX11_told) (pc := 30) [(3, .inl v18), (0, .inr (.inr (some this))), (1, .inl a1), (2, .inl a2)] dX11_told_30 rfl (Nat.le_of_ble_eq_true rfl) rfl ?_
      refine vv_iload_n (mi := mX11_told) (pc := 31) 3 dX11_told_31 rfl rfl ?_
      refine vv_tsw (mi := mX11_told) (pc := 32) 253 [92, 97, 104, 119, 121, 127, 138, 168, 204, 223, 223] dX11_told_32 rfl rfl rfl (fun j t c19 c19e => ?_) (fun c19 => ?_)
      · match j, c19, c19e with
        | 0, c19, c19e =>
          cases c19
          replace h := h.1 c19e
          refine vv_aload_n (mi := mX11_told) (pc := 92) 1 dX11_told_92 rfl rfl ?_
          refine vv_getI (mi := mX11_told) (pc := 93) 11 32 rfl ht13 fl_X11_236 (Nat.le_of_ble_eq_true rfl) dX11_told_93 ?_
          exact vv_iret (mi := mX11_told) (pc := 96) dX11_told_96 rfl (Nat.le_of_ble_eq_true rfl) (Nat.le_of_ble_eq_true rfl) h
        | 1, c19, c19e =>
          cases c19
          replace h := h.2.1 c19e
          refine vv_aload_n (mi := mX11_told) (pc := 97) 1 dX11_told_97 rfl rfl ?_
          refine vv_getR (mi := mX11_told) (pc := 98) 11 28 rfl ht13 fl_X11_83 (Nat.le_of_ble_eq_true rfl) dX11_told_98 ?_
          refine vv_iload_n (mi := mX11_told) (pc := 101) 2 dX11_told_101 rfl rfl ?_
          obtain ⟨aq20, hs21, h⟩ := h
          obtain ⟨ht22, h⟩ := h
          obtain ⟨hi23, h⟩ := h
          refine vv_iald (mi := mX11_told) (pc := 102) hs21 ht22 hi23 dX11_told_102 ?_
          exact vv_iret (mi := mX11_told) (pc := 103) dX11_told_103 rfl (Nat.le_of_ble_eq_true rfl) (Nat.le_of_ble_eq_true rfl) h
        | 2, c19, c19e =>
          cases c19
          replace h := h.2.2.1 c19e
          refine vv_aload_n (mi := mX11_told) (pc := 104) 1 dX11_told_104 rfl rfl ?_
          refine vv_getR (mi := mX11_told) (pc := 105) 11 29 rfl ht13 fl_X11_86 (Nat.le_of_ble_eq_true rfl) dX11_told_105 ?_
          refine vv_iload_n (mi := mX11_told) (pc := 108) 2 dX11_told_108 rfl rfl ?_
          obtain ⟨aq24, hs25, h⟩ := h
          obtain ⟨ht26, h⟩ := h
          obtain ⟨hi27, h⟩ := h
          refine vv_zald (mi := mX11_told) (pc := 109) hs25 ht26 hi27 dX11_told_109 ?_
          refine vv_if_eq (mi := mX11_told) (pc := 110) 117 dX11_told_110 rfl (fun c28 => ?_) (fun c28 => ?_)
          · replace h := h.1 c28
            refine vv_iconst (mi := mX11_told) (pc := 117) 0 dX11_told_117 rfl ?_
            exact vv_iret (mi := mX11_told) (pc := 118) dX11_told_118 rfl (Nat.le_of_ble_eq_true rfl) (Nat.le_of_ble_eq_true rfl) h
          · replace h := h.2 c28
            refine vv_iconst (mi := mX11_told) (pc := 113) 1 dX11_told_113 rfl ?_
            refine vv_goto (mi := mX11_told) (pc := 114) 118 dX11_told_114 rfl ?_
            exact vv_iret (mi := mX11_told) (pc := 118) dX11_told_118 rfl (Nat.le_of_ble_eq_true rfl) (Nat.le_of_ble_eq_true rfl) h
        | 3, c19, c19e =>
          cases c19
          replace h := h.2.2.2.1 c19e
          refine vv_iload_n (mi := mX11_told) (pc := 119) 0 dX11_told_119 rfl rfl ?_
          exact vv_iret (mi := mX11_told) (pc := 120) dX11_told_120 rfl (Nat.le_of_ble_eq_true rfl) (Nat.le_of_ble_eq_true rfl) h
        | 4, c19, c19e =>
          cases c19
          replace h := h.2.2.2.2.1 c19e
          refine vv_aload_n (mi := mX11_told) (pc := 121) 1 dX11_told_121 rfl rfl ?_
          refine vv_iload_n (mi := mX11_told) (pc := 122) 0 dX11_told_122 rfl rfl ?_
          refine vv_callV (mi := mX11_told) (pc := 123) (rest := []) (As := [.inl v18]) (ctX11_leadsTo (X := X) h) dX11_told_123 rfl ht13 (Nat.le_of_ble_eq_true rfl) rfl mb_X11_leadsTo rfl ml_X11_258 im_X11_leadsTo se_X11_leadsTo ⟨(Nat.le_of_ble_eq_true rfl), (Nat.le_of_ble_eq_true rfl)⟩ ⟨(Nat.le_of_ble_eq_true rfl), (Nat.le_of_ble_eq_true rfl)⟩ (Nat.le_of_ble_eq_true rfl) rfl (kI_ (F := fun st M' => VV X mX11_told rX11_told (pI_ post) 126 [(3, .inl v18), (0, .inr (.inr (some this))), (1, .inl a1), (2, .inl a2)] st M' 0 0) (fun r29 M30 h => ?_))
          exact vv_iret (mi := mX11_told) (pc := 126) dX11_told_126 rfl (Nat.le_of_ble_eq_true rfl) (Nat.le_of_ble_eq_true rfl) h
        | 5, c19, c19e =>
          cases c19
          replace h := h.2.2.2.2.2.1 c19e
          refine vv_aload_n (mi := mX11_told) (pc := 127) 1 dX11_told_127 rfl rfl ?_
          refine vv_aload_n (mi := mX11_told) (pc := 128) 1 dX11_told_128 rfl rfl ?_
          refine vv_iload_n (mi := mX11_told) (pc := 129) 0 dX11_told_129 rfl rfl ?_
          refine vv_callV (mi := mX11_told) (pc := 130) (rest := [.inr (.inr (some this))]) (As := [.inl v18]) (ctX11_leadsTo (X := X) h) dX11_told_130 rfl ht13 (Nat.le_of_ble_eq_true rfl) rfl mb_X11_leadsTo rfl ml_X11_258 im_X11_leadsTo se_X11_leadsTo ⟨(Nat.le_of_ble_eq_true rfl), (Nat.le_of_ble_eq_true rfl)⟩ ⟨(Nat.le_of_ble_eq_true rfl), (Nat.le_of_ble_eq_true rfl)⟩ (Nat.le_of_ble_eq_true rfl) rfl (kI_ (F := fun st M' => VV X mX11_told rX11_told (pI_ post) 133 [(3, .inl v18), (0, .inr (.inr (some this))), (1, .inl a1), (2, .inl a2)] st M' 0 0) (fun r31 M32 h => ?_))
          refine vv_iload_n (mi := mX11_told) (pc := 133) 0 dX11_told_133 rfl rfl ?_
          obtain ⟨ht33, h⟩ := h
          refine vv_callV (mi := mX11_told) (pc := 134) (rest := []) (As := [.inl r31, .inl v18]) (ctX11_lineOf (X := X) h) dX11_told_134 rfl ht33 (Nat.le_of_ble_eq_true rfl) rfl mb_X11_lineOf rfl ml_X11_261 im_X11_lineOf se_X11_lineOf ⟨(Nat.le_of_ble_eq_true rfl), (Nat.le_of_ble_eq_true rfl)⟩ ⟨(Nat.le_of_ble_eq_true rfl), (Nat.le_of_ble_eq_true rfl)⟩ (Nat.le_of_ble_eq_true rfl) rfl (kI_ (F := fun st M' => VV X mX11_told rX11_told (pI_ post) 137 [(3, .inl v18), (0, .inr (.inr (some this))), (1, .inl a1), (2, .inl a2)] st M' 0 0) (fun r34 M35 h => ?_))
          exact vv_iret (mi := mX11_told) (pc := 137) dX11_told_137 rfl (Nat.le_of_ble_eq_true rfl) (Nat.le_of_ble_eq_true rfl) h
        | 6, c19, c19e =>
          cases c19
          replace h := h.2.2.2.2.2.2.1 c19e
          refine vv_aload_n (mi := mX11_told) (pc := 138) 1 dX11_told_138 rfl rfl ?_
          refine vv_aload_n (mi := mX11_told) (pc := 139) 1 dX11_told_139 rfl rfl ?_
          refine vv_iload_n (mi := mX11_told) (pc := 140) 0 dX11_told_140 rfl rfl ?_
          refine vv_callV (mi := mX11_told) (pc := 141) (rest := [.inr (.inr (some this))]) (As := [.inl v18]) (ctX11_leadsTo (X := X) h) dX11_told_141 rfl ht13 (Nat.le_of_ble_eq_true rfl) rfl mb_X11_leadsTo rfl ml_X11_258 im_X11_leadsTo se_X11_leadsTo ⟨(Nat.le_of_ble_eq_true rfl), (Nat.le_of_ble_eq_true rfl)⟩ ⟨(Nat.le_of_ble_eq_true rfl), (Nat.le_of_ble_eq_true rfl)⟩ (Nat.le_of_ble_eq_true rfl) rfl (kI_ (F := fun st M' => VV X mX11_told rX11_told (pI_ post) 144 [(3, .inl v18), (0, .inr (.inr (some this))), (1, .inl a1), (2, .inl a2)] st M' 0 0) (fun r36 M37 h => ?_))
          refine vv_iload_n (mi := mX11_told) (pc := 144) 0 dX11_told_144 rfl rfl ?_
          obtain ⟨ht38, h⟩ := h
          refine vv_callV (mi := mX11_told) (pc := 145) (rest := []) (As := [.inl r36, .inl v18]) (ctX11_lineOf (X := X) h) dX11_told_145 rfl ht38 (Nat.le_of_ble_eq_true rfl) rfl mb_X11_lineOf rfl ml_X11_261 im_X11_lineOf se_X11_lineOf ⟨(Nat.le_of_ble_eq_true rfl), (Nat.le_of_ble_eq_true rfl)⟩ ⟨(Nat.le_of_ble_eq_true rfl), (Nat.le_of_ble_eq_true rfl)⟩ (Nat.le_of_ble_eq_true rfl) rfl (kI_ (F := fun st M' => VV X mX11_told rX11_told (pI_ post) 148 [(3, .inl v18), (0, .inr (.inr (some this))), (1, .inl a1), (2, .inl a2)] st M' 0 0) (fun r39 M40 h => ?_))
          refine vv_istore (mi := mX11_told) (pc := 148) [(4, .inl r39), (3, .inl v18), (0, .inr (.inr (some this))), (1, .inl a1), (2, .inl a2)] dX11_told_148 (Nat.le_of_ble_eq_true rfl) rfl ?_
          refine vv_iload (mi := mX11_told) (pc := 150) 0 dX11_told_150 rfl ?_
          refine vv_iconst (mi := mX11_told) (pc := 152) (-1) dX11_told_152 rfl ?_
          refine vv_icmp_ne (mi := mX11_told) (pc := 153) 160 dX11_told_153 rfl (fun c41 => ?_) (fun c41 => ?_)
          · replace h := h.1 c41
            refine vv_aload_n (mi := mX11_told) (pc := 160) 2 dX11_told_160 rfl rfl ?_
            refine vv_iload (mi := mX11_told) (pc := 161) 0 dX11_told_161 rfl ?_
            refine vv_iload_n (mi := mX11_told) (pc := 163) 1 dX11_told_163 rfl rfl ?_
            obtain ⟨ht42, h⟩ := h
            refine vv_callV (mi := mX11_told) (pc := 164) (rest := []) (As := [.inl r39, .inl v18]) (ctX11_carrierOf (X := X) h) dX11_told_164 rfl ht42 (Nat.le_of_ble_eq_true rfl) rfl mb_X11_carrierOf rfl ml_X11_222 im_X11_carrierOf se_X11_carrierOf ⟨(Nat.le_of_ble_eq_true rfl), (Nat.le_of_ble_eq_true rfl)⟩ ⟨(Nat.le_of_ble_eq_true rfl), (Nat.le_of_ble_eq_true rfl)⟩ (Nat.le_of_ble_eq_true rfl) rfl (kI_ (F := fun st M' => VV X mX11_told rX11_told (pI_ post) 167 [(4, .inl r39), (3, .inl v18), (0, .inr (.inr (some this))), (1, .inl a1), (2, .inl a2)] st M' 0 0) (fun r43 M44 h => ?_))
            exact vv_iret (mi := mX11_told) (pc := 167) dX11_told_167 rfl (Nat.le_of_ble_eq_true rfl) (Nat.le_of_ble_eq_true rfl) h
          · replace h := h.2 c41
            refine vv_iconst (mi := mX11_told) (pc := 156) (-1) dX11_told_156 rfl ?_
            refine vv_goto (mi := mX11_told) (pc := 157) 167 dX11_told_157 rfl ?_
            exact vv_iret (mi := mX11_told) (pc := 167) dX11_told_167 rfl (Nat.le_of_ble_eq_true rfl) (Nat.le_of_ble_eq_true rfl) h
        | 7, c19, c19e =>
          cases c19
          replace h := h.2.2.2.2.2.2.2.1 c19e
          refine vv_aload_n (mi := mX11_told) (pc := 168) 1 dX11_told_168 rfl rfl ?_
          refine vv_iload_n (mi := mX11_told) (pc := 169) 0 dX11_told_169 rfl rfl ?_
          refine vv_callV (mi := mX11_told) (pc := 170) (rest := []) (As := [.inl v18]) (ctX11_leadsTo (X := X) h) dX11_told_170 rfl ht13 (Nat.le_of_ble_eq_true rfl) rfl mb_X11_leadsTo rfl ml_X11_258 im_X11_leadsTo se_X11_leadsTo ⟨(Nat.le_of_ble_eq_true rfl), (Nat.le_of_ble_eq_true rfl)⟩ ⟨(Nat.le_of_ble_eq_true rfl), (Nat.le_of_ble_eq_true rfl)⟩ (Nat.le_of_ble_eq_true rfl) rfl (kI_ (F := fun st M' => VV X mX11_told rX11_told (pI_ post) 173 [(3, .inl v18), (0, .inr (.inr (some this))), (1, .inl a1), (2, .inl a2)] st M' 0 0) (fun r45 M46 h => ?_))
          refine vv_istore (mi := mX11_told) (pc := 173) [(4, .inl r45), (3, .inl v18), (0, .inr (.inr (some this))), (1, .inl a1), (2, .inl a2)] dX11_told_173 (Nat.le_of_ble_eq_true rfl) rfl ?_
          refine vv_iload (mi := mX11_told) (pc := 175) 0 dX11_told_175 rfl ?_
          refine vv_iconst (mi := mX11_told) (pc := 177) (-1) dX11_told_177 rfl ?_
          refine vv_icmp_eq (mi := mX11_told) (pc := 178) 202 dX11_told_178 rfl (fun c47 => ?_) (fun c47 => ?_)
          · replace h := h.1 c47
            refine vv_iconst (mi := mX11_told) (pc := 202) (-1) dX11_told_202 rfl ?_
            exact vv_iret (mi := mX11_told) (pc := 203) dX11_told_203 rfl (Nat.le_of_ble_eq_true rfl) (Nat.le_of_ble_eq_true rfl) h
          · replace h := h.2 c47
            refine vv_aload_n (mi := mX11_told) (pc := 181) 2 dX11_told_181 rfl rfl ?_
            obtain ⟨ht48, h⟩ := h
            refine vv_getR (mi := mX11_told) (pc := 182) 11 2 rfl ht48 fl_X11_7 (Nat.le_of_ble_eq_true rfl) dX11_told_182 ?_
            refine vv_iload (mi := mX11_told) (pc := 185) 0 dX11_told_185 rfl ?_
            obtain ⟨aq49, hs50, h⟩ := h
            obtain ⟨ht51, h⟩ := h
            obtain ⟨hi52, h⟩ := h
            refine vv_iald (mi := mX11_told) (pc := 187) hs50 ht51 hi52 dX11_told_187 ?_
            refine vv_iconst (mi := mX11_told) (pc := 188) 1 dX11_told_188 rfl ?_
            refine vv_icmp_ne (mi := mX11_told) (pc := 189) 202 dX11_told_189 rfl (fun c53 => ?_) (fun c53 => ?_)
            · replace h := h.1 c53
              refine vv_iconst (mi := mX11_told) (pc := 202) (-1) dX11_told_202 rfl ?_
              exact vv_iret (mi := mX11_told) (pc := 203) dX11_told_203 rfl (Nat.le_of_ble_eq_true rfl) (Nat.le_of_ble_eq_true rfl) h
            · replace h := h.2 c53
              refine vv_aload_n (mi := mX11_told) (pc := 192) 2 dX11_told_192 rfl rfl ?_
              refine vv_getR (mi := mX11_told) (pc := 193) 11 3 rfl ht48 fl_X11_13 (Nat.le_of_ble_eq_true rfl) dX11_told_193 ?_
              refine vv_iload (mi := mX11_told) (pc := 196) 0 dX11_told_196 rfl ?_
              obtain ⟨aq54, hs55, h⟩ := h
              obtain ⟨ht56, h⟩ := h
              obtain ⟨hi57, h⟩ := h
              refine vv_iald (mi := mX11_told) (pc := 198) hs55 ht56 hi57 dX11_told_198 ?_
              refine vv_goto (mi := mX11_told) (pc := 199) 203 dX11_told_199 rfl ?_
              exact vv_iret (mi := mX11_told) (pc := 203) dX11_told_203 rfl (Nat.le_of_ble_eq_true rfl) (Nat.le_of_ble_eq_true rfl) h
        | 8, c19, c19e =>
          cases c19
          replace h := h.2.2.2.2.2.2.2.2.1 c19e
          refine vv_aload_n (mi := mX11_told) (pc := 204) 1 dX11_told_204 rfl rfl ?_
          refine vv_getR (mi := mX11_told) (pc := 205) 11 29 rfl ht13 fl_X11_86 (Nat.le_of_ble_eq_true rfl) dX11_told_205 ?_
          refine vv_iload_n (mi := mX11_told) (pc := 208) 2 dX11_told_208 rfl rfl ?_
          obtain ⟨aq58, hs59, h⟩ := h
          obtain ⟨ht60, h⟩ := h
          obtain ⟨hi61, h⟩ := h
          refine vv_zald (mi := mX11_told) (pc := 209) hs59 ht60 hi61 dX11_told_209 ?_
          refine vv_if_eq (mi := mX11_told) (pc := 210) 217 dX11_told_210 rfl (fun c62 => ?_) (fun c62 => ?_)
          · replace h := h.1 c62
            refine vv_aload_n (mi := mX11_told) (pc := 217) 1 dX11_told_217 rfl rfl ?_
            refine vv_iload_n (mi := mX11_told) (pc := 218) 0 dX11_told_218 rfl rfl ?_
            refine vv_callV (mi := mX11_told) (pc := 219) (rest := []) (As := [.inl v18]) (ctX11_behind (X := X) h) dX11_told_219 rfl ht13 (Nat.le_of_ble_eq_true rfl) rfl mb_X11_behind rfl ml_X11_264 im_X11_behind se_X11_behind ⟨(Nat.le_of_ble_eq_true rfl), (Nat.le_of_ble_eq_true rfl)⟩ ⟨(Nat.le_of_ble_eq_true rfl), (Nat.le_of_ble_eq_true rfl)⟩ (Nat.le_of_ble_eq_true rfl) rfl (kI_ (F := fun st M' => VV X mX11_told rX11_told (pI_ post) 222 [(3, .inl v18), (0, .inr (.inr (some this))), (1, .inl a1), (2, .inl a2)] st M' 0 0) (fun r63 M64 h => ?_))
            exact vv_iret (mi := mX11_told) (pc := 222) dX11_told_222 rfl (Nat.le_of_ble_eq_true rfl) (Nat.le_of_ble_eq_true rfl) h
          · replace h := h.2 c62
            refine vv_iconst (mi := mX11_told) (pc := 213) 0 dX11_told_213 rfl ?_
            refine vv_goto (mi := mX11_told) (pc := 214) 222 dX11_told_214 rfl ?_
            exact vv_iret (mi := mX11_told) (pc := 222) dX11_told_222 rfl (Nat.le_of_ble_eq_true rfl) (Nat.le_of_ble_eq_true rfl) h
        | 9, c19, c19e =>
          cases c19
          replace h := h.2.2.2.2.2.2.2.2.2.1 c19e
          refine vv_sub (mi := mX11_told) [(0, .inr (.inr (some this))), (1, .inl a1), (2, .inl a2), (3, .inl v18)] [1, 2, 3, 0] rfl ?_
          exact bX11_told_223 (X := X)  h
        | 10, c19, c19e =>
          cases c19
          replace h := h.2.2.2.2.2.2.2.2.2.2.1 c19e
          refine vv_sub (mi := mX11_told) [(0, .inr (.inr (some this))), (1, .inl a1), (2, .inl a2), (3, .inl v18)] [1, 2, 3, 0] rfl ?_
          exact bX11_told_223 (X := X)  h
        | (j + 11), c19, _ => exact absurd c19 (by simp)
      · replace h := h.2.2.2.2.2.2.2.2.2.2.2 c19
        refine vv_iconst (mi := mX11_told) (pc := 253) (-1) dX11_told_253 rfl ?_
        exact vv_iret (mi := mX11_told) (pc := 254) dX11_told_254 rfl (Nat.le_of_ble_eq_true rfl) (Nat.le_of_ble_eq_true rfl) h
    · replace h := h.2 c10
      refine vv_iconst (mi := mX11_told) (pc := 17) (-1) dX11_told_17 rfl ?_
      exact vv_iret (mi := mX11_told) (pc := 18) dX11_told_18 rfl (Nat.le_of_ble_eq_true rfl) (Nat.le_of_ble_eq_true rfl) h
set_option maxHeartbeats 4000000 in
set_option maxRecDepth 100000 in
theorem ctX11_leads {X : Cx_} {this : Nat} {a1 : Int64} {a2 : Int32} {M : Mm} {post : Int32 → Mm → Prop} (h : PX11_leads this a1 a2 M post) : CT X mX11_leads rX11_leads [.inr (.inr (some this)), .inr (.inl a1), .inl a2] M (pI_ post) := by
  unfold PX11_leads at h
  refine CT.of (by decide +kernel) (Nat.le_of_ble_eq_true rfl) ?_
  show VV X mX11_leads rX11_leads (pI_ post) 0 [(0, .inr (.inr (some this))), (1, .inr (.inl a1)), (3, .inl a2)] [] M 0 0
  refine vv_lload_n (mi := mX11_leads) (pc := 0) 1 dX11_leads_0 rfl rfl ?_
  refine vv_callS (mi := mX11_leads) (pc := 1) (rest := []) (As := [.inr (.inl a1)]) (ctX11_figuresOf (X := X) h) dX11_leads_1 mb_X11_figuresOf rfl ml_X11_122 sc_X11_figuresOf ⟨(Nat.le_of_ble_eq_true rfl), (Nat.le_of_ble_eq_true rfl)⟩ ⟨(Nat.le_of_ble_eq_true rfl), (Nat.le_of_ble_eq_true rfl)⟩ (Nat.le_of_ble_eq_true rfl) rfl (kI_ (F := fun st M' => VV X mX11_leads rX11_leads (pI_ post) 4 [(0, .inr (.inr (some this))), (1, .inr (.inl a1)), (3, .inl a2)] st M' 0 0) (fun r1 M2 h => ?_))
  refine vv_i2l (mi := mX11_leads) (pc := 4) dX11_leads_4 ?_
  refine vv_lconst (mi := mX11_leads) (pc := 5) 1 dX11_leads_5 rfl ?_
  refine vv_ldc2 (mi := mX11_leads) (pc := 6) 15 dX11_leads_6 kl_X11_137 ?_
  refine vv_callS (mi := mX11_leads) (pc := 9) (rest := []) (As := [.inr (.inl (Int32.toInt64 r1)), .inr (.inl 1), .inr (.inl 15)]) (ctX11_in (X := X) h) dX11_leads_9 mb_X11_in rfl ml_X11_110 sc_X11_in ⟨(Nat.le_of_ble_eq_true rfl), (Nat.le_of_ble_eq_true rfl)⟩ ⟨(Nat.le_of_ble_eq_true rfl), (Nat.le_of_ble_eq_true rfl)⟩ (Nat.le_of_ble_eq_true rfl) rfl (kI_ (F := fun st M' => VV X mX11_leads rX11_leads (pI_ post) 12 [(0, .inr (.inr (some this))), (1, .inr (.inl a1)), (3, .inl a2)] st M' 0 0) (fun r3 M4 h => ?_))
  refine vv_if_eq (mi := mX11_leads) (pc := 12) 22 dX11_leads_12 rfl (fun c5 => ?_) (fun c5 => ?_)
  · replace h := h.1 c5
    refine vv_bipush (mi := mX11_leads) (pc := 22) (-2) dX11_leads_22 rfl ?_
    exact vv_iret (mi := mX11_leads) (pc := 24) dX11_leads_24 rfl (Nat.le_of_ble_eq_true rfl) (Nat.le_of_ble_eq_true rfl) h
  · replace h := h.2 c5
    refine vv_iload_n (mi := mX11_leads) (pc := 15) 2 dX11_leads_15 rfl rfl ?_
    refine vv_callS (mi := mX11_leads) (pc := 16) (rest := []) (As := [.inl a2]) (ctX11_isDay (X := X) h) dX11_leads_16 mb_X11_isDay rfl ml_X11_194 sc_X11_isDay ⟨(Nat.le_of_ble_eq_true rfl), (Nat.le_of_ble_eq_true rfl)⟩ ⟨(Nat.le_of_ble_eq_true rfl), (Nat.le_of_ble_eq_true rfl)⟩ (Nat.le_of_ble_eq_true rfl) rfl (kI_ (F := fun st M' => VV X mX11_leads rX11_leads (pI_ post) 19 [(0, .inr (.inr (some this))), (1, .inr (.inl a1)), (3, .inl a2)] st M' 0 0) (fun r6 M7 h => ?_))
    refine vv_if_ne (mi := mX11_leads) (pc := 19) 25 dX11_leads_19 rfl (fun c8 => ?_) (fun c8 => ?_)
    · replace h := h.1 c8
      refine vv_aload_n (mi := mX11_leads) (pc := 25) 0 dX11_leads_25 rfl rfl ?_
      refine vv_lload_n (mi := mX11_leads) (pc := 26) 1 dX11_leads_26 rfl rfl ?_
      obtain ⟨ht9, h⟩ := h
      refine vv_callV (mi := mX11_leads) (pc := 27) (rest := []) (As := [.inr (.inl a1)]) (ctX11_takeNumber (X := X) h) dX11_leads_27 rfl ht9 (Nat.le_of_ble_eq_true rfl) rfl mb_X11_takeNumber rfl ml_X11_271 im_X11_takeNumber se_X11_takeNumber ⟨(Nat.le_of_ble_eq_true rfl), (Nat.le_of_ble_eq_true rfl)⟩ ⟨(Nat.le_of_ble_eq_true rfl), (Nat.le_of_ble_eq_true rfl)⟩ (Nat.le_of_ble_eq_true rfl) rfl (kV_ (F := fun st M' => VV X mX11_leads rX11_leads (pI_ post) 30 [(0, .inr (.inr (some this))), (1, .inr (.inl a1)), (3, .inl a2)] st M' 0 0) (fun M11 h => ?_))
      refine vv_aload_n (mi := mX11_leads) (pc := 30) 0 dX11_leads_30 rfl rfl ?_
      refine vv_aload_n (mi := mX11_leads) (pc := 31) 0 dX11_leads_31 rfl rfl ?_
      refine vv_iload_n (mi := mX11_leads) (pc := 32) 2 dX11_leads_32 rfl rfl ?_
      obtain ⟨ht12, h⟩ := h
      refine vv_callV (mi := mX11_leads) (pc := 33) (rest := [.inr (.inr (some this))]) (As := [.inl a2]) (ctX11_leadsTo (X := X) h) dX11_leads_33 rfl ht12 (Nat.le_of_ble_eq_true rfl) rfl mb_X11_leadsTo rfl ml_X11_258 im_X11_leadsTo se_X11_leadsTo ⟨(Nat.le_of_ble_eq_true rfl), (Nat.le_of_ble_eq_true rfl)⟩ ⟨(Nat.le_of_ble_eq_true rfl), (Nat.le_of_ble_eq_true rfl)⟩ (Nat.le_of_ble_eq_true rfl) rfl (kI_ (F := fun st M' => VV X mX11_leads rX11_leads (pI_ post) 36 [(0, .inr (.inr (some this))), (1, .inr (.inl a1)), (3, .inl a2)] st M' 0 0) (fun r13 M14 h => ?_))
      refine vv_iload_n (mi := mX11_leads) (pc := 36) 2 dX11_leads_36 rfl rfl ?_
      obtain ⟨ht15, h⟩ := h
      refine vv_callV (mi := mX11_leads) (pc := 37) (rest := []) (As := [.inl r13, .inl a2]) (ctX11_lineOf (X := X) h) dX11_leads_37 rfl ht15 (Nat.le_of_ble_eq_true rfl) rfl mb_X11_lineOf rfl ml_X11_261 im_X11_lineOf se_X11_lineOf ⟨(Nat.le_of_ble_eq_true rfl), (Nat.le_of_ble_eq_true rfl)⟩ ⟨(Nat.le_of_ble_eq_true rfl), (Nat.le_of_ble_eq_true rfl)⟩ (Nat.le_of_ble_eq_true rfl) rfl (kI_ (F := fun st M' => VV X mX11_leads rX11_leads (pI_ post) 40 [(0, .inr (.inr (some this))), (1, .inr (.inl a1)), (3, .inl a2)] st M' 0 0) (fun r16 M17 h => ?_))
      exact vv_iret (mi := mX11_leads) (pc := 40) dX11_leads_40 rfl (Nat.le_of_ble_eq_true rfl) (Nat.le_of_ble_eq_true rfl) h
    · replace h := h.2 c8
      refine vv_bipush (mi := mX11_leads) (pc := 22) (-2) dX11_leads_22 rfl ?_
      exact vv_iret (mi := mX11_leads) (pc := 24) dX11_leads_24 rfl (Nat.le_of_ble_eq_true rfl) (Nat.le_of_ble_eq_true rfl) h
set_option maxHeartbeats 4000000 in
set_option maxRecDepth 100000 in
theorem ctX11_demand {X : Cx_} {this : Nat} {a1 : Int32} {a2 : Int32} {a3 : Int32} {M : Mm} {post : Int32 → Mm → Prop} (h : PX11_demand this a1 a2 a3 M post) : CT X mX11_demand rX11_demand [.inr (.inr (some this)), .inl a1, .inl a2, .inl a3] M (pI_ post) := by
  unfold PX11_demand at h
  refine CT.of (by decide +kernel) (Nat.le_of_ble_eq_true rfl) ?_
  show VV X mX11_demand rX11_demand (pI_ post) 0 [(0, .inr (.inr (some this))), (1, .inl a1), (2, .inl a2), (3, .inl a3)] [] M 0 0
  refine vv_iload_n (mi := mX11_demand) (pc := 0) 1 dX11_demand_0 rfl rfl ?_
  refine vv_i2l (mi := mX11_demand) (pc := 1) dX11_demand_1 ?_
  refine vv_lconst (mi := mX11_demand) (pc := 2) 0 dX11_demand_2 rfl ?_
  refine vv_ldc2 (mi := mX11_demand) (pc := 3) 15 dX11_demand_3 kl_X11_137 ?_
  refine vv_callS (mi := mX11_demand) (pc := 6) (rest := []) (As := [.inr (.inl (Int32.toInt64 a1)), .inr (.inl 0), .inr (.inl 15)]) (ctX11_in (X := X) h) dX11_demand_6 mb_X11_in rfl ml_X11_110 sc_X11_in ⟨(Nat.le_of_ble_eq_true rfl), (Nat.le_of_ble_eq_true rfl)⟩ ⟨(Nat.le_of_ble_eq_true rfl), (Nat.le_of_ble_eq_true rfl)⟩ (Nat.le_of_ble_eq_true rfl) rfl (kI_ (F := fun st M' => VV X mX11_demand rX11_demand (pI_ post) 9 [(0, .inr (.inr (some this))), (1, .inl a1), (2, .inl a2), (3, .inl a3)] st M' 0 0) (fun r1 M2 h => ?_))
  refine vv_if_eq (mi := mX11_demand) (pc := 9) 36 dX11_demand_9 rfl (fun c3 => ?_) (fun c3 => ?_)
  · replace h := h.1 c3
    refine vv_bipush (mi := mX11_demand) (pc := 36) (-2) dX11_demand_36 rfl ?_
    exact vv_iret (mi := mX11_demand) (pc := 38) dX11_demand_38 rfl (Nat.le_of_ble_eq_true rfl) (Nat.le_of_ble_eq_true rfl) h
  · replace h := h.2 c3
    refine vv_iload_n (mi := mX11_demand) (pc := 12) 2 dX11_demand_12 rfl rfl ?_
    refine vv_i2l (mi := mX11_demand) (pc := 13) dX11_demand_13 ?_
    refine vv_lconst (mi := mX11_demand) (pc := 14) 0 dX11_demand_14 rfl ?_
    refine vv_ldc2 (mi := mX11_demand) (pc := 15) 1000000000 dX11_demand_15 kl_X11_275 ?_
    refine vv_callS (mi := mX11_demand) (pc := 18) (rest := []) (As := [.inr (.inl (Int32.toInt64 a2)), .inr (.inl 0), .inr (.inl 1000000000)]) (ctX11_in (X := X) h) dX11_demand_18 mb_X11_in rfl ml_X11_110 sc_X11_in ⟨(Nat.le_of_ble_eq_true rfl), (Nat.le_of_ble_eq_true rfl)⟩ ⟨(Nat.le_of_ble_eq_true rfl), (Nat.le_of_ble_eq_true rfl)⟩ (Nat.le_of_ble_eq_true rfl) rfl (kI_ (F := fun st M' => VV X mX11_demand rX11_demand (pI_ post) 21 [(0, .inr (.inr (some this))), (1, .inl a1), (2, .inl a2), (3, .inl a3)] st M' 0 0) (fun r4 M5 h => ?_))
    refine vv_if_eq (mi := mX11_demand) (pc := 21) 36 dX11_demand_21 rfl (fun c6 => ?_) (fun c6 => ?_)
    · replace h := h.1 c6
      refine vv_bipush (mi := mX11_demand) (pc := 36) (-2) dX11_demand_36 rfl ?_
      exact vv_iret (mi := mX11_demand) (pc := 38) dX11_demand_38 rfl (Nat.le_of_ble_eq_true rfl) (Nat.le_of_ble_eq_true rfl) h
    · replace h := h.2 c6
      refine vv_iload_n (mi := mX11_demand) (pc := 24) 3 dX11_demand_24 rfl rfl ?_
      refine vv_i2l (mi := mX11_demand) (pc := 25) dX11_demand_25 ?_
      refine vv_lconst (mi := mX11_demand) (pc := 26) 0 dX11_demand_26 rfl ?_
      refine vv_ldc2 (mi := mX11_demand) (pc := 27) 1000000 dX11_demand_27 kl_X11_277 ?_
      refine vv_callS (mi := mX11_demand) (pc := 30) (rest := []) (As := [.inr (.inl (Int32.toInt64 a3)), .inr (.inl 0), .inr (.inl 1000000)]) (ctX11_in (X := X) h) dX11_demand_30 mb_X11_in rfl ml_X11_110 sc_X11_in ⟨(Nat.le_of_ble_eq_true rfl), (Nat.le_of_ble_eq_true rfl)⟩ ⟨(Nat.le_of_ble_eq_true rfl), (Nat.le_of_ble_eq_true rfl)⟩ (Nat.le_of_ble_eq_true rfl) rfl (kI_ (F := fun st M' => VV X mX11_demand rX11_demand (pI_ post) 33 [(0, .inr (.inr (some this))), (1, .inl a1), (2, .inl a2), (3, .inl a3)] st M' 0 0) (fun r7 M8 h => ?_))
      refine vv_if_ne (mi := mX11_demand) (pc := 33) 39 dX11_demand_33 rfl (fun c9 => ?_) (fun c9 => ?_)
      · replace h := h.1 c9
        refine vv_aload_n (mi := mX11_demand) (pc := 39) 0 dX11_demand_39 rfl rfl ?_
        obtain ⟨ht10, h⟩ := h
        refine vv_getR (mi := mX11_demand) (pc := 40) 11 33 rfl ht10 fl_X11_96 (Nat.le_of_ble_eq_true rfl) dX11_demand_40 ?_
        refine vv_iload_n (mi := mX11_demand) (pc := 43) 1 dX11_demand_43 rfl rfl ?_
        obtain ⟨aq11, hs12, h⟩ := h
        obtain ⟨ht13, h⟩ := h
        obtain ⟨hi14, h⟩ := h
        refine vv_iald (mi := mX11_demand) (pc := 44) hs12 ht13 hi14 dX11_demand_44 ?_
        obtain ⟨v15, ev15⟩ : ∃ z : Int32, z = (ddI M8 aq11 (Int32.toNatClampNeg a1)) := ⟨_, rfl⟩
        refine vv_namI ev15 ?_
        replace h := h _ ev15
        refine vv_istore (mi := mX11_demand) (pc := 45) [(4, .inl v15), (0, .inr (.inr (some this))), (1, .inl a1), (2, .inl a2), (3, .inl a3)] dX11_demand_45 (Nat.le_of_ble_eq_true rfl) rfl ?_
        refine vv_aload_n (mi := mX11_demand) (pc := 47) 1 dX11_demand_47 rfl rfl ?_
        refine vv_getR (mi := mX11_demand) (pc := 48) 11 33 rfl ht10 fl_X11_96 (Nat.le_of_ble_eq_true rfl) dX11_demand_48 ?_
        refine vv_iload_n (mi := mX11_demand) (pc := 51) 2 dX11_demand_51 rfl rfl ?_
        refine vv_iload_n (mi := mX11_demand) (pc := 52) 3 dX11_demand_52 rfl rfl ?_
        obtain ⟨hi16, h⟩ := h
        obtain ⟨M17, eM17⟩ : ∃ z : Mm, z = suI M8 aq11 (Int32.toNatClampNeg a1) a2 := ⟨_, rfl⟩
        replace h := h _ eM17
        refine vv_iast (mi := mX11_demand) (pc := 53) hs12 ht13 hi16 dX11_demand_53 eM17 ?_
        refine vv_aload_n (mi := mX11_demand) (pc := 54) 1 dX11_demand_54 rfl rfl ?_
        refine vv_getR (mi := mX11_demand) (pc := 55) 11 34 rfl (tgI_ eM17 ht10) fl_X11_99 (Nat.le_of_ble_eq_true rfl) dX11_demand_55 ?_
        refine vv_iload_n (mi := mX11_demand) (pc := 58) 2 dX11_demand_58 rfl rfl ?_
        refine vv_iload_n (mi := mX11_demand) (pc := 59) 4 dX11_demand_59 rfl rfl ?_
        obtain ⟨aq18, hs19, h⟩ := h
        obtain ⟨ht20, h⟩ := h
        obtain ⟨hi21, h⟩ := h
        obtain ⟨M22, eM22⟩ : ∃ z : Mm, z = suI M17 aq18 (Int32.toNatClampNeg a1) a3 := ⟨_, rfl⟩
        replace h := h _ eM22
        refine vv_iast (mi := mX11_demand) (pc := 60) hs19 ht20 hi21 dX11_demand_60 eM22 ?_
        refine vv_iload (mi := mX11_demand) (pc := 61) 0 dX11_demand_61 rfl ?_
        exact vv_iret (mi := mX11_demand) (pc := 63) dX11_demand_63 rfl (Nat.le_of_ble_eq_true rfl) (Nat.le_of_ble_eq_true rfl) h
      · replace h := h.2 c9
        refine vv_bipush (mi := mX11_demand) (pc := 36) (-2) dX11_demand_36 rfl ?_
        exact vv_iret (mi := mX11_demand) (pc := 38) dX11_demand_38 rfl (Nat.le_of_ble_eq_true rfl) (Nat.le_of_ble_eq_true rfl) h
set_option maxHeartbeats 4000000 in
set_option maxRecDepth 100000 in
theorem bX11_roomAt_5 {X : Cx_} {kb5 : Nat → Int32 → Int32 → Int64 → Int32 → Mm → Prop} {post : Int64 → Mm → Prop} (hb5 : ∀ (this : Nat) (x1 : Int32) (x2 : Int32) (x3 : Int64) (x5 : Int32) (M : Mm), kb5 this x1 x2 x3 x5 M → VV X mX11_roomAt rX11_roomAt (pL_ post) 5 [(0, .inr (.inr (some this))), (1, .inl x1), (2, .inl x2), (3, .inr (.inl x3)), (5, .inl x5)] [] M 0 0) {this : Nat} {x1 : Int32} {x2 : Int32} {x3 : Int64} {x5 : Int32} {M : Mm} (h : BX11_roomAt_5 kb5 post this x1 x2 x3 x5 M) : VV X mX11_roomAt rX11_roomAt (pL_ post) 5 [(0, .inr (.inr (some this))), (1, .inl x1), (2, .inl x2), (3, .inr (.inl x3)), (5, .inl x5)] [] M 0 0 := by
  unfold BX11_roomAt_5 at h
  refine vv_iload (mi := mX11_roomAt) (pc := 5) 4 dX11_roomAt_5 rfl ?_
  refine vv_aload_n (mi := mX11_roomAt) (pc := 7) 0 dX11_roomAt_7 rfl rfl ?_
  obtain ⟨ht1, h⟩ := h
  refine vv_getI (mi := mX11_roomAt) (pc := 8) 11 1 rfl ht1 fl_X11_130 (Nat.le_of_ble_eq_true rfl) dX11_roomAt_8 ?_
  refine vv_icmp_ge (mi := mX11_roomAt) (pc := 11) 61 dX11_roomAt_11 rfl (fun c2 => ?_) (fun c2 => ?_)
  · replace h := h.1 c2
    refine vv_lload_n (mi := mX11_roomAt) (pc := 61) 3 dX11_roomAt_61 rfl rfl ?_
    exact vv_lret (mi := mX11_roomAt) (pc := 62) dX11_roomAt_62 rfl (Nat.le_of_ble_eq_true rfl) (Nat.le_of_ble_eq_true rfl) h
  · replace h := h.2 c2
    refine vv_aload_n (mi := mX11_roomAt) (pc := 14) 0 dX11_roomAt_14 rfl rfl ?_
    refine vv_getR (mi := mX11_roomAt) (pc := 15) 11 2 rfl ht1 fl_X11_7 (Nat.le_of_ble_eq_true rfl) dX11_roomAt_15 ?_
    refine vv_iload (mi := mX11_roomAt) (pc := 18) 4 dX11_roomAt_18 rfl ?_
    obtain ⟨aq3, hs4, h⟩ := h
    obtain ⟨ht5, h⟩ := h
    obtain ⟨hi6, h⟩ := h
    refine vv_iald (mi := mX11_roomAt) (pc := 20) hs4 ht5 hi6 dX11_roomAt_20 ?_
    refine vv_if_ne (mi := mX11_roomAt) (pc := 21) 55 dX11_roomAt_21 rfl (fun c7 => ?_) (fun c7 => ?_)
    · replace h := h.1 c7
      refine vv_iinc (mi := mX11_roomAt) (pc := 55) (x5 + 1) 4 [(5, .inl (x5 + 1)), (0, .inr (.inr (some this))), (1, .inl x1), (2, .inl x2), (3, .inr (.inl x3))] dX11_roomAt_55 rfl rfl (Nat.le_of_ble_eq_true rfl) rfl ?_
      refine vv_goto (mi := mX11_roomAt) (pc := 58) 5 dX11_roomAt_58 rfl ?_
      refine vv_sub (mi := mX11_roomAt) [(0, .inr (.inr (some this))), (1, .inl x1), (2, .inl x2), (3, .inr (.inl x3)), (5, .inl (x5 + 1))] [1, 2, 3, 4, 0] rfl ?_
      exact hb5 _ _ _ _ _ _ h
    · replace h := h.2 c7
      refine vv_aload_n (mi := mX11_roomAt) (pc := 24) 0 dX11_roomAt_24 rfl rfl ?_
      refine vv_getR (mi := mX11_roomAt) (pc := 25) 11 3 rfl ht1 fl_X11_13 (Nat.le_of_ble_eq_true rfl) dX11_roomAt_25 ?_
      refine vv_iload (mi := mX11_roomAt) (pc := 28) 4 dX11_roomAt_28 rfl ?_
      obtain ⟨aq8, hs9, h⟩ := h
      obtain ⟨ht10, h⟩ := h
      obtain ⟨hi11, h⟩ := h
      refine vv_iald (mi := mX11_roomAt) (pc := 30) hs9 ht10 hi11 dX11_roomAt_30 ?_
      refine vv_iload_n (mi := mX11_roomAt) (pc := 31) 1 dX11_roomAt_31 rfl rfl ?_
      refine vv_icmp_ne (mi := mX11_roomAt) (pc := 32) 55 dX11_roomAt_32 rfl (fun c12 => ?_) (fun c12 => ?_)
      · replace h := h.1 c12
        refine vv_iinc (mi := mX11_roomAt) (pc := 55) (x5 + 1) 4 [(5, .inl (x5 + 1)), (0, .inr (.inr (some this))), (1, .inl x1), (2, .inl x2), (3, .inr (.inl x3))] dX11_roomAt_55 rfl rfl (Nat.le_of_ble_eq_true rfl) rfl ?_
        refine vv_goto (mi := mX11_roomAt) (pc := 58) 5 dX11_roomAt_58 rfl ?_
        refine vv_sub (mi := mX11_roomAt) [(0, .inr (.inr (some this))), (1, .inl x1), (2, .inl x2), (3, .inr (.inl x3)), (5, .inl (x5 + 1))] [1, 2, 3, 4, 0] rfl ?_
        exact hb5 _ _ _ _ _ _ h
      · replace h := h.2 c12
        refine vv_aload_n (mi := mX11_roomAt) (pc := 35) 0 dX11_roomAt_35 rfl rfl ?_
        refine vv_iload (mi := mX11_roomAt) (pc := 36) 4 dX11_roomAt_36 rfl ?_
        refine vv_iload_n (mi := mX11_roomAt) (pc := 38) 2 dX11_roomAt_38 rfl rfl ?_
        refine vv_callV (mi := mX11_roomAt) (pc := 39) (rest := []) (As := [.inl x5, .inl x2]) (ctX11_isForce (X := X) h) dX11_roomAt_39 rfl ht1 (Nat.le_of_ble_eq_true rfl) rfl mb_X11_isForce rfl ml_X11_197 im_X11_isForce se_X11_isForce ⟨(Nat.le_of_ble_eq_true rfl), (Nat.le_of_ble_eq_true rfl)⟩ ⟨(Nat.le_of_ble_eq_true rfl), (Nat.le_of_ble_eq_true rfl)⟩ (Nat.le_of_ble_eq_true rfl) rfl (kI_ (F := fun st M' => VV X mX11_roomAt rX11_roomAt (pL_ post) 42 [(0, .inr (.inr (some this))), (1, .inl x1), (2, .inl x2), (3, .inr (.inl x3)), (5, .inl x5)] st M' 0 0) (fun r13 M14 h => ?_))
        refine vv_if_eq (mi := mX11_roomAt) (pc := 42) 55 dX11_roomAt_42 rfl (fun c15 => ?_) (fun c15 => ?_)
        · replace h := h.1 c15
          refine vv_iinc (mi := mX11_roomAt) (pc := 55) (x5 + 1) 4 [(5, .inl (x5 + 1)), (0, .inr (.inr (some this))), (1, .inl x1), (2, .inl x2), (3, .inr (.inl x3))] dX11_roomAt_55 rfl rfl (Nat.le_of_ble_eq_true rfl) rfl ?_
          refine vv_goto (mi := mX11_roomAt) (pc := 58) 5 dX11_roomAt_58 rfl ?_
          refine vv_sub (mi := mX11_roomAt) [(0, .inr (.inr (some this))), (1, .inl x1), (2, .inl x2), (3, .inr (.inl x3)), (5, .inl (x5 + 1))] [1, 2, 3, 4, 0] rfl ?_
          exact hb5 _ _ _ _ _ _ h
        · replace h := h.2 c15
          refine vv_lload_n (mi := mX11_roomAt) (pc := 45) 3 dX11_roomAt_45 rfl rfl ?_
          refine vv_aload_n (mi := mX11_roomAt) (pc := 46) 0 dX11_roomAt_46 rfl rfl ?_
          obtain ⟨ht16, h⟩ := h
          refine vv_getR (mi := mX11_roomAt) (pc := 47) 11 15 rfl ht16 fl_X11_49 (Nat.le_of_ble_eq_true rfl) dX11_roomAt_47 ?_
          refine vv_iload (mi := mX11_roomAt) (pc := 50) 4 dX11_roomAt_50 rfl ?_
          obtain ⟨aq17, hs18, h⟩ := h
          obtain ⟨ht19, h⟩ := h
          obtain ⟨hi20, h⟩ := h
          refine vv_lald (mi := mX11_roomAt) (pc := 52) hs18 ht19 hi20 dX11_roomAt_52 ?_
          refine vv_ladd (mi := mX11_roomAt) (pc := 53) dX11_roomAt_53 ?_
          obtain ⟨v21, ev21⟩ : ∃ z : Int64, z = (x3 + (ddL M14 aq17 (Int32.toNatClampNeg x5))) := ⟨_, rfl⟩
          refine vv_namL ev21 ?_
          replace h := h _ ev21
          refine vv_lstore_n (mi := mX11_roomAt) (pc := 54) [(3, .inr (.inl v21)), (0, .inr (.inr (some this))), (1, .inl x1), (2, .inl x2), (5, .inl x5)] dX11_roomAt_54 rfl (Nat.le_of_ble_eq_true rfl) rfl ?_
          refine vv_iinc (mi := mX11_roomAt) (pc := 55) (x5 + 1) 4 [(5, .inl (x5 + 1)), (3, .inr (.inl v21)), (0, .inr (.inr (some this))), (1, .inl x1), (2, .inl x2)] dX11_roomAt_55 rfl rfl (Nat.le_of_ble_eq_true rfl) rfl ?_
          refine vv_goto (mi := mX11_roomAt) (pc := 58) 5 dX11_roomAt_58 rfl ?_
          refine vv_sub (mi := mX11_roomAt) [(0, .inr (.inr (some this))), (1, .inl x1), (2, .inl x2), (3, .inr (.inl v21)), (5, .inl (x5 + 1))] [2, 3, 4, 1, 0] rfl ?_
          exact hb5 _ _ _ _ _ _ h
theorem loX11_roomAt_5 {X : Cx_}  {post : Int64 → Mm → Prop}  : ∀ (fu : Nat) {this : Nat} {x1 : Int32} {x2 : Int32} {x3 : Int64} {x5 : Int32} {M : Mm}, DX11_roomAt_5  post fu this x1 x2 x3 x5 M → VV X mX11_roomAt rX11_roomAt (pL_ post) 5 [(0, .inr (.inr (some this))), (1, .inl x1), (2, .inl x2), (3, .inr (.inl x3)), (5, .inl x5)] [] M 0 0
  | 0, _, _, _, _, _, _, h => False.elim h
  | fu + 1, _, _, _, _, _, _, h => bX11_roomAt_5 (fun this x1 x2 x3 x5 M h => loX11_roomAt_5  fu h) h
set_option maxHeartbeats 4000000 in
set_option maxRecDepth 100000 in
theorem ctX11_roomAt {X : Cx_} {this : Nat} {a1 : Int32} {a2 : Int32} {M : Mm} {post : Int64 → Mm → Prop} (h : PX11_roomAt this a1 a2 M post) : CT X mX11_roomAt rX11_roomAt [.inr (.inr (some this)), .inl a1, .inl a2] M (pL_ post) := by
  unfold PX11_roomAt at h
  refine CT.of (by decide +kernel) (Nat.le_of_ble_eq_true rfl) ?_
  show VV X mX11_roomAt rX11_roomAt (pL_ post) 0 [(0, .inr (.inr (some this))), (1, .inl a1), (2, .inl a2)] [] M 0 0
  refine vv_lconst (mi := mX11_roomAt) (pc := 0) 0 dX11_roomAt_0 rfl ?_
  refine vv_lstore_n (mi := mX11_roomAt) (pc := 1) [(3, .inr (.inl 0)), (0, .inr (.inr (some this))), (1, .inl a1), (2, .inl a2)] dX11_roomAt_1 rfl (Nat.le_of_ble_eq_true rfl) rfl ?_
  refine vv_iconst (mi := mX11_roomAt) (pc := 2) 0 dX11_roomAt_2 rfl ?_
  refine vv_istore (mi := mX11_roomAt) (pc := 3) [(5, .inl 0), (3, .inr (.inl 0)), (0, .inr (.inr (some this))), (1, .inl a1), (2, .inl a2)] dX11_roomAt_3 (Nat.le_of_ble_eq_true rfl) rfl ?_
  refine vv_sub (mi := mX11_roomAt) [(0, .inr (.inr (some this))), (1, .inl a1), (2, .inl a2), (3, .inr (.inl 0)), (5, .inl 0)] [2, 3, 4, 1, 0] rfl ?_
  obtain ⟨fu, h⟩ := h
  exact loX11_roomAt_5 (X := X)  fu h
set_option maxHeartbeats 4000000 in
set_option maxRecDepth 100000 in
theorem ctX11_room {X : Cx_} {this : Nat} {a1 : Int32} {a2 : Int32} {M : Mm} {post : Int64 → Mm → Prop} (h : PX11_room this a1 a2 M post) : CT X mX11_room rX11_room [.inr (.inr (some this)), .inl a1, .inl a2] M (pL_ post) := by
  unfold PX11_room at h
  refine CT.of (by decide +kernel) (Nat.le_of_ble_eq_true rfl) ?_
  show VV X mX11_room rX11_room (pL_ post) 0 [(0, .inr (.inr (some this))), (1, .inl a1), (2, .inl a2)] [] M 0 0
  refine vv_iload_n (mi := mX11_room) (pc := 0) 1 dX11_room_0 rfl rfl ?_
  refine vv_i2l (mi := mX11_room) (pc := 1) dX11_room_1 ?_
  refine vv_lconst (mi := mX11_room) (pc := 2) 0 dX11_room_2 rfl ?_
  refine vv_ldc2 (mi := mX11_room) (pc := 3) 15 dX11_room_3 kl_X11_137 ?_
  refine vv_callS (mi := mX11_room) (pc := 6) (rest := []) (As := [.inr (.inl (Int32.toInt64 a1)), .inr (.inl 0), .inr (.inl 15)]) (ctX11_in (X := X) h) dX11_room_6 mb_X11_in rfl ml_X11_110 sc_X11_in ⟨(Nat.le_of_ble_eq_true rfl), (Nat.le_of_ble_eq_true rfl)⟩ ⟨(Nat.le_of_ble_eq_true rfl), (Nat.le_of_ble_eq_true rfl)⟩ (Nat.le_of_ble_eq_true rfl) rfl (kI_ (F := fun st M' => VV X mX11_room rX11_room (pL_ post) 9 [(0, .inr (.inr (some this))), (1, .inl a1), (2, .inl a2)] st M' 0 0) (fun r1 M2 h => ?_))
  refine vv_if_eq (mi := mX11_room) (pc := 9) 28 dX11_room_9 rfl (fun c3 => ?_) (fun c3 => ?_)
  · replace h := h.1 c3
    refine vv_ldc2 (mi := mX11_room) (pc := 28) (-2) dX11_room_28 kl_X11_283 ?_
    exact vv_lret (mi := mX11_room) (pc := 31) dX11_room_31 rfl (Nat.le_of_ble_eq_true rfl) (Nat.le_of_ble_eq_true rfl) h
  · replace h := h.2 c3
    refine vv_iload_n (mi := mX11_room) (pc := 12) 2 dX11_room_12 rfl rfl ?_
    refine vv_callS (mi := mX11_room) (pc := 13) (rest := []) (As := [.inl a2]) (ctX11_isDay (X := X) h) dX11_room_13 mb_X11_isDay rfl ml_X11_194 sc_X11_isDay ⟨(Nat.le_of_ble_eq_true rfl), (Nat.le_of_ble_eq_true rfl)⟩ ⟨(Nat.le_of_ble_eq_true rfl), (Nat.le_of_ble_eq_true rfl)⟩ (Nat.le_of_ble_eq_true rfl) rfl (kI_ (F := fun st M' => VV X mX11_room rX11_room (pL_ post) 16 [(0, .inr (.inr (some this))), (1, .inl a1), (2, .inl a2)] st M' 0 0) (fun r4 M5 h => ?_))
    refine vv_if_eq (mi := mX11_room) (pc := 16) 28 dX11_room_16 rfl (fun c6 => ?_) (fun c6 => ?_)
    · replace h := h.1 c6
      refine vv_ldc2 (mi := mX11_room) (pc := 28) (-2) dX11_room_28 kl_X11_283 ?_
      exact vv_lret (mi := mX11_room) (pc := 31) dX11_room_31 rfl (Nat.le_of_ble_eq_true rfl) (Nat.le_of_ble_eq_true rfl) h
    · replace h := h.2 c6
      refine vv_aload_n (mi := mX11_room) (pc := 19) 0 dX11_room_19 rfl rfl ?_
      refine vv_iload_n (mi := mX11_room) (pc := 20) 1 dX11_room_20 rfl rfl ?_
      refine vv_iload_n (mi := mX11_room) (pc := 21) 2 dX11_room_21 rfl rfl ?_
      obtain ⟨ht7, h⟩ := h
      refine vv_callV (mi := mX11_room) (pc := 22) (rest := []) (As := [.inl a1, .inl a2]) (ctX11_roomAt (X := X) h) dX11_room_22 rfl ht7 (Nat.le_of_ble_eq_true rfl) rfl mb_X11_roomAt rfl ml_X11_279 im_X11_roomAt se_X11_roomAt ⟨(Nat.le_of_ble_eq_true rfl), (Nat.le_of_ble_eq_true rfl)⟩ ⟨(Nat.le_of_ble_eq_true rfl), (Nat.le_of_ble_eq_true rfl)⟩ (Nat.le_of_ble_eq_true rfl) rfl (kL_ (F := fun st M' => VV X mX11_room rX11_room (pL_ post) 25 [(0, .inr (.inr (some this))), (1, .inl a1), (2, .inl a2)] st M' 0 0) (fun r8 M9 h => ?_))
      refine vv_goto (mi := mX11_room) (pc := 25) 31 dX11_room_25 rfl ?_
      exact vv_lret (mi := mX11_room) (pc := 31) dX11_room_31 rfl (Nat.le_of_ble_eq_true rfl) (Nat.le_of_ble_eq_true rfl) h
set_option maxHeartbeats 4000000 in
set_option maxRecDepth 100000 in
theorem bX11_makeBase_8 {X : Cx_} {kb8 : Nat → Int32 → Int32 → Mm → Prop} {post : Mm → Prop} (hb8 : ∀ (this : Nat) (x1 : Int32) (x2 : Int32) (M : Mm), kb8 this x1 x2 M → VV X mX11_makeBase rX11_makeBase (pV_ post) 8 [(0, .inr (.inr (some this))), (1, .inl x1), (2, .inl x2)] [] M 0 0) {this : Nat} {x1 : Int32} {x2 : Int32} {M : Mm} (h : BX11_makeBase_8 kb8 post this x1 x2 M) : VV X mX11_makeBase rX11_makeBase (pV_ post) 8 [(0, .inr (.inr (some this))), (1, .inl x1), (2, .inl x2)] [] M 0 0 := by
  unfold BX11_makeBase_8 at h
  refine vv_iload_n (mi := mX11_makeBase) (pc := 8) 2 dX11_makeBase_8 rfl rfl ?_
  refine vv_sipush (mi := mX11_makeBase) (pc := 9) 2000 dX11_makeBase_9 rfl ?_
  refine vv_icmp_gt (mi := mX11_makeBase) (pc := 12) 36 dX11_makeBase_12 rfl (fun c3 => ?_) (fun c3 => ?_)
  · replace h := h.1 c3
    exact vv_vret (mi := mX11_makeBase) (pc := 36) dX11_makeBase_36 rfl (Nat.le_of_ble_eq_true rfl) (Nat.le_of_ble_eq_true rfl) h
  · replace h := h.2 c3
    refine vv_aload_n (mi := mX11_makeBase) (pc := 15) 0 dX11_makeBase_15 rfl rfl ?_
    obtain ⟨ht4, h⟩ := h
    refine vv_getR (mi := mX11_makeBase) (pc := 16) 11 37 rfl ht4 fl_X11_105 (Nat.le_of_ble_eq_true rfl) dX11_makeBase_16 ?_
    refine vv_iload_n (mi := mX11_makeBase) (pc := 19) 2 dX11_makeBase_19 rfl rfl ?_
    refine vv_aload_n (mi := mX11_makeBase) (pc := 20) 0 dX11_makeBase_20 rfl rfl ?_
    refine vv_iload_n (mi := mX11_makeBase) (pc := 21) 1 dX11_makeBase_21 rfl rfl ?_
    refine vv_bipush (mi := mX11_makeBase) (pc := 22) 7 dX11_makeBase_22 rfl ?_
    refine vv_iload_n (mi := mX11_makeBase) (pc := 24) 2 dX11_makeBase_24 rfl rfl ?_
    refine vv_imul (mi := mX11_makeBase) (pc := 25) dX11_makeBase_25 ?_
    refine vv_callV (mi := mX11_makeBase) (pc := 26) (rest := [.inl x2, .inr (.inr (ddR M this 37))]) (As := [.inl x1, .inl (7 * x2)]) (ctX11_roomAt (X := X) h) dX11_makeBase_26 rfl ht4 (Nat.le_of_ble_eq_true rfl) rfl mb_X11_roomAt rfl ml_X11_279 im_X11_roomAt se_X11_roomAt ⟨(Nat.le_of_ble_eq_true rfl), (Nat.le_of_ble_eq_true rfl)⟩ ⟨(Nat.le_of_ble_eq_true rfl), (Nat.le_of_ble_eq_true rfl)⟩ (Nat.le_of_ble_eq_true rfl) rfl (kL_ (F := fun st M' => VV X mX11_makeBase rX11_makeBase (pV_ post) 29 [(0, .inr (.inr (some this))), (1, .inl x1), (2, .inl x2)] st M' 0 0) (fun r5 M6 h => ?_))
    obtain ⟨aq7, hs8, h⟩ := h
    obtain ⟨ht9, h⟩ := h
    obtain ⟨hi10, h⟩ := h
    obtain ⟨M11, eM11⟩ : ∃ z : Mm, z = suL M6 aq7 (Int32.toNatClampNeg x2) r5 := ⟨_, rfl⟩
    replace h := h _ eM11
    refine vv_last (mi := mX11_makeBase) (pc := 29) hs8 ht9 hi10 dX11_makeBase_29 eM11 ?_
    refine vv_iinc (mi := mX11_makeBase) (pc := 30) (x2 + 1) 2 [(2, .inl (x2 + 1)), (0, .inr (.inr (some this))), (1, .inl x1)] dX11_makeBase_30 rfl rfl (Nat.le_of_ble_eq_true rfl) rfl ?_
    refine vv_goto (mi := mX11_makeBase) (pc := 33) 8 dX11_makeBase_33 rfl ?_
    refine vv_sub (mi := mX11_makeBase) [(0, .inr (.inr (some this))), (1, .inl x1), (2, .inl (x2 + 1))] [1, 2, 0] rfl ?_
    exact hb8 _ _ _ _ h
theorem loX11_makeBase_8 {X : Cx_}  {post : Mm → Prop}  : ∀ (fu : Nat) {this : Nat} {x1 : Int32} {x2 : Int32} {M : Mm}, DX11_makeBase_8  post fu this x1 x2 M → VV X mX11_makeBase rX11_makeBase (pV_ post) 8 [(0, .inr (.inr (some this))), (1, .inl x1), (2, .inl x2)] [] M 0 0
  | 0, _, _, _, _, h => False.elim h
  | fu + 1, _, _, _, _, h => bX11_makeBase_8 (fun this x1 x2 M h => loX11_makeBase_8  fu h) h
set_option maxHeartbeats 4000000 in
set_option maxRecDepth 100000 in
theorem ctX11_makeBase {X : Cx_} {this : Nat} {a1 : Int32} {M : Mm} {post : Mm → Prop} (h : PX11_makeBase this a1 M post) : CT X mX11_makeBase rX11_makeBase [.inr (.inr (some this)), .inl a1] M (pV_ post) := by
  unfold PX11_makeBase at h
  refine CT.of (by decide +kernel) (Nat.le_of_ble_eq_true rfl) ?_
  show VV X mX11_makeBase rX11_makeBase (pV_ post) 0 [(0, .inr (.inr (some this))), (1, .inl a1)] [] M 0 0
  refine vv_aload_n (mi := mX11_makeBase) (pc := 0) 0 dX11_makeBase_0 rfl rfl ?_
  obtain ⟨ht1, h⟩ := h
  refine vv_getI (mi := mX11_makeBase) (pc := 1) 11 0 rfl ht1 fl_X11_114 (Nat.le_of_ble_eq_true rfl) dX11_makeBase_1 ?_
  refine vv_bipush (mi := mX11_makeBase) (pc := 4) 7 dX11_makeBase_4 rfl ?_
  refine vv_idiv (mi := mX11_makeBase) (pc := 6) nzI_7 dX11_makeBase_6 ?_
  obtain ⟨v2, ev2⟩ : ∃ z : Int32, z = ((ddI M this 0) / 7) := ⟨_, rfl⟩
  refine vv_namI ev2 ?_
  replace h := h _ ev2
  refine vv_istore_n (mi := mX11_makeBase) (pc := 7) [(2, .inl v2), (0, .inr (.inr (some this))), (1, .inl a1)] dX11_makeBase_7 rfl (Nat.le_of_ble_eq_true rfl) rfl ?_
  refine vv_sub (mi := mX11_makeBase) [(0, .inr (.inr (some this))), (1, .inl a1), (2, .inl v2)] [1, 2, 0] rfl ?_
  obtain ⟨fu, h⟩ := h
  exact loX11_makeBase_8 (X := X)  fu h
set_option maxHeartbeats 4000000 in
set_option maxRecDepth 100000 in
theorem bX11_shortageWith_26 {X : Cx_} {kb8 : Nat → Int32 → Int32 → Int32 → Mm → Prop} {kb26 : Nat → Int32 → Int32 → Int32 → Int64 → Int32 → Mm → Prop} {post : Int32 → Mm → Prop} (hb8 : ∀ (this : Nat) (x1 : Int32) (x2 : Int32) (x3 : Int32) (M : Mm), kb8 this x1 x2 x3 M → VV X mX11_shortageWith rX11_shortageWith (pI_ post) 8 [(0, .inr (.inr (some this))), (1, .inl x1), (2, .inl x2), (3, .inl x3)] [] M 0 0) (hb26 : ∀ (this : Nat) (x1 : Int32) (x2 : Int32) (x3 : Int32) (x4 : Int64) (x6 : Int32) (M : Mm), kb26 this x1 x2 x3 x4 x6 M → VV X mX11_shortageWith rX11_shortageWith (pI_ post) 26 [(0, .inr (.inr (some this))), (1, .inl x1), (2, .inl x2), (3, .inl x3), (4, .inr (.inl x4)), (6, .inl x6)] [] M 0 0) {this : Nat} {x1 : Int32} {x2 : Int32} {x3 : Int32} {x4 : Int64} {x6 : Int32} {M : Mm} (h : BX11_shortageWith_26 kb8 kb26 post this x1 x2 x3 x4 x6 M) : VV X mX11_shortageWith rX11_shortageWith (pI_ post) 26 [(0, .inr (.inr (some this))), (1, .inl x1), (2, .inl x2), (3, .inl x3), (4, .inr (.inl x4)), (6, .inl x6)] [] M 0 0 := by
  unfold BX11_shortageWith_26 at h
  refine vv_iload (mi := mX11_shortageWith) (pc := 26) 5 dX11_shortageWith_26 rfl ?_
  refine vv_aload_n (mi := mX11_shortageWith) (pc := 28) 0 dX11_shortageWith_28 rfl rfl ?_
  obtain ⟨ht10, h⟩ := h
  refine vv_getI (mi := mX11_shortageWith) (pc := 29) 11 35 rfl ht10 fl_X11_285 (Nat.le_of_ble_eq_true rfl) dX11_shortageWith_29 ?_
  refine vv_icmp_ge (mi := mX11_shortageWith) (pc := 32) 97 dX11_shortageWith_32 rfl (fun c11 => ?_) (fun c11 => ?_)
  · replace h := h.1 c11
    refine vv_aload_n (mi := mX11_shortageWith) (pc := 97) 0 dX11_shortageWith_97 rfl rfl ?_
    refine vv_getR (mi := mX11_shortageWith) (pc := 98) 11 33 rfl ht10 fl_X11_96 (Nat.le_of_ble_eq_true rfl) dX11_shortageWith_98 ?_
    refine vv_iload_n (mi := mX11_shortageWith) (pc := 101) 1 dX11_shortageWith_101 rfl rfl ?_
    obtain ⟨aq12, hs13, h⟩ := h
    obtain ⟨ht14, h⟩ := h
    obtain ⟨hi15, h⟩ := h
    refine vv_iald (mi := mX11_shortageWith) (pc := 102) hs13 ht14 hi15 dX11_shortageWith_102 ?_
    refine vv_i2l (mi := mX11_shortageWith) (pc := 103) dX11_shortageWith_103 ?_
    refine vv_iload_n (mi := mX11_shortageWith) (pc := 104) 3 dX11_shortageWith_104 rfl rfl ?_
    refine vv_i2l (mi := mX11_shortageWith) (pc := 105) dX11_shortageWith_105 ?_
    refine vv_aload_n (mi := mX11_shortageWith) (pc := 106) 0 dX11_shortageWith_106 rfl rfl ?_
    refine vv_getR (mi := mX11_shortageWith) (pc := 107) 11 34 rfl ht10 fl_X11_99 (Nat.le_of_ble_eq_true rfl) dX11_shortageWith_107 ?_
    refine vv_iload_n (mi := mX11_shortageWith) (pc := 110) 1 dX11_shortageWith_110 rfl rfl ?_
    obtain ⟨aq16, hs17, h⟩ := h
    obtain ⟨ht18, h⟩ := h
    obtain ⟨hi19, h⟩ := h
    refine vv_iald (mi := mX11_shortageWith) (pc := 111) hs17 ht18 hi19 dX11_shortageWith_111 ?_
    refine vv_i2l (mi := mX11_shortageWith) (pc := 112) dX11_shortageWith_112 ?_
    refine vv_lmul (mi := mX11_shortageWith) (pc := 113) dX11_shortageWith_113 ?_
    refine vv_ladd (mi := mX11_shortageWith) (pc := 114) dX11_shortageWith_114 ?_
    refine vv_lload (mi := mX11_shortageWith) (pc := 115) 4 dX11_shortageWith_115 rfl ?_
    refine vv_lcmp (mi := mX11_shortageWith) (pc := 117) dX11_shortageWith_117 ?_
    refine vv_if_le (mi := mX11_shortageWith) (pc := 118) 123 dX11_shortageWith_118 rfl (fun c20 => ?_) (fun c20 => ?_)
    · replace h := h.1 c20
      refine vv_iinc (mi := mX11_shortageWith) (pc := 123) (x3 + 1) 3 [(3, .inl (x3 + 1)), (0, .inr (.inr (some this))), (1, .inl x1), (2, .inl x2), (4, .inr (.inl x4)), (6, .inl x6)] dX11_shortageWith_123 rfl rfl (Nat.le_of_ble_eq_true rfl) rfl ?_
      refine vv_goto (mi := mX11_shortageWith) (pc := 126) 8 dX11_shortageWith_126 rfl ?_
      refine vv_sub (mi := mX11_shortageWith) [(0, .inr (.inr (some this))), (1, .inl x1), (2, .inl x2), (3, .inl (x3 + 1))] [1, 2, 3, 0] rfl ?_
      exact hb8 _ _ _ _ _ h
    · replace h := h.2 c20
      refine vv_iload_n (mi := mX11_shortageWith) (pc := 121) 3 dX11_shortageWith_121 rfl rfl ?_
      exact vv_iret (mi := mX11_shortageWith) (pc := 122) dX11_shortageWith_122 rfl (Nat.le_of_ble_eq_true rfl) (Nat.le_of_ble_eq_true rfl) h
  · replace h := h.2 c11
    refine vv_iload_n (mi := mX11_shortageWith) (pc := 35) 2 dX11_shortageWith_35 rfl rfl ?_
    refine vv_iload (mi := mX11_shortageWith) (pc := 36) 5 dX11_shortageWith_36 rfl ?_
    refine vv_ishr (mi := mX11_shortageWith) (pc := 38) dX11_shortageWith_38 ?_
    refine vv_iconst (mi := mX11_shortageWith) (pc := 39) 1 dX11_shortageWith_39 rfl ?_
    refine vv_iand (mi := mX11_shortageWith) (pc := 40) dX11_shortageWith_40 ?_
    refine vv_iconst (mi := mX11_shortageWith) (pc := 41) 1 dX11_shortageWith_41 rfl ?_
    refine vv_icmp_ne (mi := mX11_shortageWith) (pc := 42) 91 dX11_shortageWith_42 rfl (fun c21 => ?_) (fun c21 => ?_)
    · replace h := h.1 c21
      refine vv_iinc (mi := mX11_shortageWith) (pc := 91) (x6 + 1) 5 [(6, .inl (x6 + 1)), (0, .inr (.inr (some this))), (1, .inl x1), (2, .inl x2), (3, .inl x3), (4, .inr (.inl x4))] dX11_shortageWith_91 rfl rfl (Nat.le_of_ble_eq_true rfl) rfl ?_
      refine vv_goto (mi := mX11_shortageWith) (pc := 94) 26 dX11_shortageWith_94 rfl ?_
      refine vv_sub (mi := mX11_shortageWith) [(0, .inr (.inr (some this))), (1, .inl x1), (2, .inl x2), (3, .inl x3), (4, .inr (.inl x4)), (6, .inl (x6 + 1))] [1, 2, 3, 4, 5, 0] rfl ?_
      exact hb26 _ _ _ _ _ _ _ h
    · replace h := h.2 c21
      refine vv_aload_n (mi := mX11_shortageWith) (pc := 45) 0 dX11_shortageWith_45 rfl rfl ?_
      refine vv_getR (mi := mX11_shortageWith) (pc := 46) 11 3 rfl ht10 fl_X11_13 (Nat.le_of_ble_eq_true rfl) dX11_shortageWith_46 ?_
      refine vv_bipush (mi := mX11_shortageWith) (pc := 49) 121 dX11_shortageWith_49 rfl ?_
      refine vv_iload (mi := mX11_shortageWith) (pc := 51) 5 dX11_shortageWith_51 rfl ?_
      refine vv_iadd (mi := mX11_shortageWith) (pc := 53) dX11_shortageWith_53 ?_
      obtain ⟨aq22, hs23, h⟩ := h
      obtain ⟨ht24, h⟩ := h
      obtain ⟨hi25, h⟩ := h
      refine vv_iald (mi := mX11_shortageWith) (pc := 54) hs23 ht24 hi25 dX11_shortageWith_54 ?_
      refine vv_iload_n (mi := mX11_shortageWith) (pc := 55) 1 dX11_shortageWith_55 rfl rfl ?_
      refine vv_icmp_ne (mi := mX11_shortageWith) (pc := 56) 91 dX11_shortageWith_56 rfl (fun c26 => ?_) (fun c26 => ?_)
      · replace h := h.1 c26
        refine vv_iinc (mi := mX11_shortageWith) (pc := 91) (x6 + 1) 5 [(6, .inl (x6 + 1)), (0, .inr (.inr (some this))), (1, .inl x1), (2, .inl x2), (3, .inl x3), (4, .inr (.inl x4))] dX11_shortageWith_91 rfl rfl (Nat.le_of_ble_eq_true rfl) rfl ?_
        refine vv_goto (mi := mX11_shortageWith) (pc := 94) 26 dX11_shortageWith_94 rfl ?_
        refine vv_sub (mi := mX11_shortageWith) [(0, .inr (.inr (some this))), (1, .inl x1), (2, .inl x2), (3, .inl x3), (4, .inr (.inl x4)), (6, .inl (x6 + 1))] [1, 2, 3, 4, 5, 0] rfl ?_
        exact hb26 _ _ _ _ _ _ _ h
      · replace h := h.2 c26
        refine vv_bipush (mi := mX11_shortageWith) (pc := 59) 7 dX11_shortageWith_59 rfl ?_
        refine vv_iload_n (mi := mX11_shortageWith) (pc := 61) 3 dX11_shortageWith_61 rfl rfl ?_
        refine vv_imul (mi := mX11_shortageWith) (pc := 62) dX11_shortageWith_62 ?_
        refine vv_aload_n (mi := mX11_shortageWith) (pc := 63) 0 dX11_shortageWith_63 rfl rfl ?_
        refine vv_getR (mi := mX11_shortageWith) (pc := 64) 11 8 rfl ht10 fl_X11_28 (Nat.le_of_ble_eq_true rfl) dX11_shortageWith_64 ?_
        refine vv_bipush (mi := mX11_shortageWith) (pc := 67) 121 dX11_shortageWith_67 rfl ?_
        refine vv_iload (mi := mX11_shortageWith) (pc := 69) 5 dX11_shortageWith_69 rfl ?_
        refine vv_iadd (mi := mX11_shortageWith) (pc := 71) dX11_shortageWith_71 ?_
        obtain ⟨aq27, hs28, h⟩ := h
        obtain ⟨ht29, h⟩ := h
        obtain ⟨hi30, h⟩ := h
        refine vv_iald (mi := mX11_shortageWith) (pc := 72) hs28 ht29 hi30 dX11_shortageWith_72 ?_
        refine vv_icmp_lt (mi := mX11_shortageWith) (pc := 73) 91 dX11_shortageWith_73 rfl (fun c31 => ?_) (fun c31 => ?_)
        · replace h := h.1 c31
          refine vv_iinc (mi := mX11_shortageWith) (pc := 91) (x6 + 1) 5 [(6, .inl (x6 + 1)), (0, .inr (.inr (some this))), (1, .inl x1), (2, .inl x2), (3, .inl x3), (4, .inr (.inl x4))] dX11_shortageWith_91 rfl rfl (Nat.le_of_ble_eq_true rfl) rfl ?_
          refine vv_goto (mi := mX11_shortageWith) (pc := 94) 26 dX11_shortageWith_94 rfl ?_
          refine vv_sub (mi := mX11_shortageWith) [(0, .inr (.inr (some this))), (1, .inl x1), (2, .inl x2), (3, .inl x3), (4, .inr (.inl x4)), (6, .inl (x6 + 1))] [1, 2, 3, 4, 5, 0] rfl ?_
          exact hb26 _ _ _ _ _ _ _ h
        · replace h := h.2 c31
          refine vv_lload (mi := mX11_shortageWith) (pc := 76) 4 dX11_shortageWith_76 rfl ?_
          refine vv_aload_n (mi := mX11_shortageWith) (pc := 78) 0 dX11_shortageWith_78 rfl rfl ?_
          refine vv_getR (mi := mX11_shortageWith) (pc := 79) 11 15 rfl ht10 fl_X11_49 (Nat.le_of_ble_eq_true rfl) dX11_shortageWith_79 ?_
          refine vv_bipush (mi := mX11_shortageWith) (pc := 82) 121 dX11_shortageWith_82 rfl ?_
          refine vv_iload (mi := mX11_shortageWith) (pc := 84) 5 dX11_shortageWith_84 rfl ?_
          refine vv_iadd (mi := mX11_shortageWith) (pc := 86) dX11_shortageWith_86 ?_
          obtain ⟨aq32, hs33, h⟩ := h
          obtain ⟨ht34, h⟩ := h
          obtain ⟨hi35, h⟩ := h
          refine vv_lald (mi := mX11_shortageWith) (pc := 87) hs33 ht34 hi35 dX11_shortageWith_87 ?_
          refine vv_ladd (mi := mX11_shortageWith) (pc := 88) dX11_shortageWith_88 ?_
          obtain ⟨v36, ev36⟩ : ∃ z : Int64, z = (x4 + (ddL M aq32 (Int32.toNatClampNeg (121 + x6)))) := ⟨_, rfl⟩
          refine vv_namL ev36 ?_
          replace h := h _ ev36
          refine vv_lstore (mi := mX11_shortageWith) (pc := 89) [(4, .inr (.inl v36)), (0, .inr (.inr (some this))), (1, .inl x1), (2, .inl x2), (3, .inl x3), (6, .inl x6)] dX11_shortageWith_89 (Nat.le_of_ble_eq_true rfl) rfl ?_
          refine vv_iinc (mi := mX11_shortageWith) (pc := 91) (x6 + 1) 5 [(6, .inl (x6 + 1)), (4, .inr (.inl v36)), (0, .inr (.inr (some this))), (1, .inl x1), (2, .inl x2), (3, .inl x3)] dX11_shortageWith_91 rfl rfl (Nat.le_of_ble_eq_true rfl) rfl ?_
          refine vv_goto (mi := mX11_shortageWith) (pc := 94) 26 dX11_shortageWith_94 rfl ?_
          refine vv_sub (mi := mX11_shortageWith) [(0, .inr (.inr (some this))), (1, .inl x1), (2, .inl x2), (3, .inl x3), (4, .inr (.inl v36)), (6, .inl (x6 + 1))] [2, 3, 4, 5, 1, 0] rfl ?_
          exact hb26 _ _ _ _ _ _ _ h
theorem loX11_shortageWith_26 {X : Cx_} {kb8 : Nat → Int32 → Int32 → Int32 → Mm → Prop} {post : Int32 → Mm → Prop} (hb8 : ∀ (this : Nat) (x1 : Int32) (x2 : Int32) (x3 : Int32) (M : Mm), kb8 this x1 x2 x3 M → VV X mX11_shortageWith rX11_shortageWith (pI_ post) 8 [(0, .inr (.inr (some this))), (1, .inl x1), (2, .inl x2), (3, .inl x3)] [] M 0 0) : ∀ (fu : Nat) {this : Nat} {x1 : Int32} {x2 : Int32} {x3 : Int32} {x4 : Int64} {x6 : Int32} {M : Mm}, DX11_shortageWith_26 kb8 post fu this x1 x2 x3 x4 x6 M → VV X mX11_shortageWith rX11_shortageWith (pI_ post) 26 [(0, .inr (.inr (some this))), (1, .inl x1), (2, .inl x2), (3, .inl x3), (4, .inr (.inl x4)), (6, .inl x6)] [] M 0 0
  | 0, _, _, _, _, _, _, _, h => False.elim h
  | fu + 1, _, _, _, _, _, _, _, h => bX11_shortageWith_26 hb8 (fun this x1 x2 x3 x4 x6 M h => loX11_shortageWith_26 hb8 fu h) h
set_option maxHeartbeats 4000000 in
set_option maxRecDepth 100000 in
theorem bX11_shortageWith_8 {X : Cx_} {kb8 : Nat → Int32 → Int32 → Int32 → Mm → Prop} {post : Int32 → Mm → Prop} (hb8 : ∀ (this : Nat) (x1 : Int32) (x2 : Int32) (x3 : Int32) (M : Mm), kb8 this x1 x2 x3 M → VV X mX11_shortageWith rX11_shortageWith (pI_ post) 8 [(0, .inr (.inr (some this))), (1, .inl x1), (2, .inl x2), (3, .inl x3)] [] M 0 0) {this : Nat} {x1 : Int32} {x2 : Int32} {x3 : Int32} {M : Mm} (h : BX11_shortageWith_8 kb8 post this x1 x2 x3 M) : VV X mX11_shortageWith rX11_shortageWith (pI_ post) 8 [(0, .inr (.inr (some this))), (1, .inl x1), (2, .inl x2), (3, .inl x3)] [] M 0 0 := by
  unfold BX11_shortageWith_8 at h
  refine vv_iload_n (mi := mX11_shortageWith) (pc := 8) 3 dX11_shortageWith_8 rfl rfl ?_
  refine vv_sipush (mi := mX11_shortageWith) (pc := 9) 2000 dX11_shortageWith_9 rfl ?_
  refine vv_icmp_gt (mi := mX11_shortageWith) (pc := 12) 129 dX11_shortageWith_12 rfl (fun c3 => ?_) (fun c3 => ?_)
  · replace h := h.1 c3
    refine vv_iconst (mi := mX11_shortageWith) (pc := 129) (-1) dX11_shortageWith_129 rfl ?_
    exact vv_iret (mi := mX11_shortageWith) (pc := 130) dX11_shortageWith_130 rfl (Nat.le_of_ble_eq_true rfl) (Nat.le_of_ble_eq_true rfl) h
  · replace h := h.2 c3
    refine vv_aload_n (mi := mX11_shortageWith) (pc := 15) 0 dX11_shortageWith_15 rfl rfl ?_
    obtain ⟨ht4, h⟩ := h
    refine vv_getR (mi := mX11_shortageWith) (pc := 16) 11 37 rfl ht4 fl_X11_105 (Nat.le_of_ble_eq_true rfl) dX11_shortageWith_16 ?_
    refine vv_iload_n (mi := mX11_shortageWith) (pc := 19) 3 dX11_shortageWith_19 rfl rfl ?_
    obtain ⟨aq5, hs6, h⟩ := h
    obtain ⟨ht7, h⟩ := h
    obtain ⟨hi8, h⟩ := h
    refine vv_lald (mi := mX11_shortageWith) (pc := 20) hs6 ht7 hi8 dX11_shortageWith_20 ?_
    obtain ⟨v9, ev9⟩ : ∃ z : Int64, z = (ddL M aq5 (Int32.toNatClampNeg x3)) := ⟨_, rfl⟩
    refine vv_namL ev9 ?_
    replace h := h _ ev9
    refine vv_lstore (mi := mX11_shortageWith) (pc := 21) [(4, .inr (.inl v9)), (0, .inr (.inr (some this))), (1, .inl x1), (2, .inl x2), (3, .inl x3)] dX11_shortageWith_21 (Nat.le_of_ble_eq_true rfl) rfl ?_
    refine vv_iconst (mi := mX11_shortageWith) (pc := 23) 0 dX11_shortageWith_23 rfl ?_
    refine vv_istore (mi := mX11_shortageWith) (pc := 24) [(6, .inl 0), (4, .inr (.inl v9)), (0, .inr (.inr (some this))), (1, .inl x1), (2, .inl x2), (3, .inl x3)] dX11_shortageWith_24 (Nat.le_of_ble_eq_true rfl) rfl ?_
    refine vv_sub (mi := mX11_shortageWith) [(0, .inr (.inr (some this))), (1, .inl x1), (2, .inl x2), (3, .inl x3), (4, .inr (.inl v9)), (6, .inl 0)] [2, 3, 4, 5, 1, 0] rfl ?_
    obtain ⟨fu, h⟩ := h
    exact loX11_shortageWith_26 (X := X) hb8 fu h
theorem loX11_shortageWith_8 {X : Cx_}  {post : Int32 → Mm → Prop}  : ∀ (fu : Nat) {this : Nat} {x1 : Int32} {x2 : Int32} {x3 : Int32} {M : Mm}, DX11_shortageWith_8  post fu this x1 x2 x3 M → VV X mX11_shortageWith rX11_shortageWith (pI_ post) 8 [(0, .inr (.inr (some this))), (1, .inl x1), (2, .inl x2), (3, .inl x3)] [] M 0 0
  | 0, _, _, _, _, _, h => False.elim h
  | fu + 1, _, _, _, _, _, h => bX11_shortageWith_8 (fun this x1 x2 x3 M h => loX11_shortageWith_8  fu h) h
set_option maxHeartbeats 4000000 in
set_option maxRecDepth 100000 in
theorem ctX11_shortageWith {X : Cx_} {this : Nat} {a1 : Int32} {a2 : Int32} {M : Mm} {post : Int32 → Mm → Prop} (h : PX11_shortageWith this a1 a2 M post) : CT X mX11_shortageWith rX11_shortageWith [.inr (.inr (some this)), .inl a1, .inl a2] M (pI_ post) := by
  unfold PX11_shortageWith at h
  refine CT.of (by decide +kernel) (Nat.le_of_ble_eq_true rfl) ?_
  show VV X mX11_shortageWith rX11_shortageWith (pI_ post) 0 [(0, .inr (.inr (some this))), (1, .inl a1), (2, .inl a2)] [] M 0 0
  refine vv_aload_n (mi := mX11_shortageWith) (pc := 0) 0 dX11_shortageWith_0 rfl rfl ?_
  obtain ⟨ht1, h⟩ := h
  refine vv_getI (mi := mX11_shortageWith) (pc := 1) 11 0 rfl ht1 fl_X11_114 (Nat.le_of_ble_eq_true rfl) dX11_shortageWith_1 ?_
  refine vv_bipush (mi := mX11_shortageWith) (pc := 4) 7 dX11_shortageWith_4 rfl ?_
  refine vv_idiv (mi := mX11_shortageWith) (pc := 6) nzI_7 dX11_shortageWith_6 ?_
  obtain ⟨v2, ev2⟩ : ∃ z : Int32, z = ((ddI M this 0) / 7) := ⟨_, rfl⟩
  refine vv_namI ev2 ?_
  replace h := h _ ev2
  refine vv_istore_n (mi := mX11_shortageWith) (pc := 7) [(3, .inl v2), (0, .inr (.inr (some this))), (1, .inl a1), (2, .inl a2)] dX11_shortageWith_7 rfl (Nat.le_of_ble_eq_true rfl) rfl ?_
  refine vv_sub (mi := mX11_shortageWith) [(0, .inr (.inr (some this))), (1, .inl a1), (2, .inl a2), (3, .inl v2)] [1, 2, 3, 0] rfl ?_
  obtain ⟨fu, h⟩ := h
  exact loX11_shortageWith_8 (X := X)  fu h
set_option maxHeartbeats 4000000 in
set_option maxRecDepth 100000 in
theorem ctX11_shortage {X : Cx_} {this : Nat} {a1 : Int32} {M : Mm} {post : Int32 → Mm → Prop} (h : PX11_shortage this a1 M post) : CT X mX11_shortage rX11_shortage [.inr (.inr (some this)), .inl a1] M (pI_ post) := by
  unfold PX11_shortage at h
  refine CT.of (by decide +kernel) (Nat.le_of_ble_eq_true rfl) ?_
  show VV X mX11_shortage rX11_shortage (pI_ post) 0 [(0, .inr (.inr (some this))), (1, .inl a1)] [] M 0 0
  refine vv_iload_n (mi := mX11_shortage) (pc := 0) 1 dX11_shortage_0 rfl rfl ?_
  refine vv_i2l (mi := mX11_shortage) (pc := 1) dX11_shortage_1 ?_
  refine vv_lconst (mi := mX11_shortage) (pc := 2) 0 dX11_shortage_2 rfl ?_
  refine vv_ldc2 (mi := mX11_shortage) (pc := 3) 15 dX11_shortage_3 kl_X11_137 ?_
  refine vv_callS (mi := mX11_shortage) (pc := 6) (rest := []) (As := [.inr (.inl (Int32.toInt64 a1)), .inr (.inl 0), .inr (.inl 15)]) (ctX11_in (X := X) h) dX11_shortage_6 mb_X11_in rfl ml_X11_110 sc_X11_in ⟨(Nat.le_of_ble_eq_true rfl), (Nat.le_of_ble_eq_true rfl)⟩ ⟨(Nat.le_of_ble_eq_true rfl), (Nat.le_of_ble_eq_true rfl)⟩ (Nat.le_of_ble_eq_true rfl) rfl (kI_ (F := fun st M' => VV X mX11_shortage rX11_shortage (pI_ post) 9 [(0, .inr (.inr (some this))), (1, .inl a1)] st M' 0 0) (fun r1 M2 h => ?_))
  refine vv_if_ne (mi := mX11_shortage) (pc := 9) 15 dX11_shortage_9 rfl (fun c3 => ?_) (fun c3 => ?_)
  · replace h := h.1 c3
    refine vv_aload_n (mi := mX11_shortage) (pc := 15) 0 dX11_shortage_15 rfl rfl ?_
    refine vv_iload_n (mi := mX11_shortage) (pc := 16) 1 dX11_shortage_16 rfl rfl ?_
    obtain ⟨ht4, h⟩ := h
    refine vv_callV (mi := mX11_shortage) (pc := 17) (rest := []) (As := [.inl a1]) (ctX11_makeBase (X := X) h) dX11_shortage_17 rfl ht4 (Nat.le_of_ble_eq_true rfl) rfl mb_X11_makeBase rfl ml_X11_288 im_X11_makeBase se_X11_makeBase ⟨(Nat.le_of_ble_eq_true rfl), (Nat.le_of_ble_eq_true rfl)⟩ ⟨(Nat.le_of_ble_eq_true rfl), (Nat.le_of_ble_eq_true rfl)⟩ (Nat.le_of_ble_eq_true rfl) rfl (kV_ (F := fun st M' => VV X mX11_shortage rX11_shortage (pI_ post) 20 [(0, .inr (.inr (some this))), (1, .inl a1)] st M' 0 0) (fun M6 h => ?_))
    refine vv_aload_n (mi := mX11_shortage) (pc := 20) 0 dX11_shortage_20 rfl rfl ?_
    refine vv_iload_n (mi := mX11_shortage) (pc := 21) 1 dX11_shortage_21 rfl rfl ?_
    refine vv_iconst (mi := mX11_shortage) (pc := 22) 0 dX11_shortage_22 rfl ?_
    obtain ⟨ht7, h⟩ := h
    refine vv_callV (mi := mX11_shortage) (pc := 23) (rest := []) (As := [.inl a1, .inl 0]) (ctX11_shortageWith (X := X) h) dX11_shortage_23 rfl ht7 (Nat.le_of_ble_eq_true rfl) rfl mb_X11_shortageWith rfl ml_X11_291 im_X11_shortageWith se_X11_shortageWith ⟨(Nat.le_of_ble_eq_true rfl), (Nat.le_of_ble_eq_true rfl)⟩ ⟨(Nat.le_of_ble_eq_true rfl), (Nat.le_of_ble_eq_true rfl)⟩ (Nat.le_of_ble_eq_true rfl) rfl (kI_ (F := fun st M' => VV X mX11_shortage rX11_shortage (pI_ post) 26 [(0, .inr (.inr (some this))), (1, .inl a1)] st M' 0 0) (fun r8 M9 h => ?_))
    exact vv_iret (mi := mX11_shortage) (pc := 26) dX11_shortage_26 rfl (Nat.le_of_ble_eq_true rfl) (Nat.le_of_ble_eq_true rfl) h
  · replace h := h.2 c3
    refine vv_bipush (mi := mX11_shortage) (pc := 12) (-2) dX11_shortage_12 rfl ?_
    exact vv_iret (mi := mX11_shortage) (pc := 14) dX11_shortage_14 rfl (Nat.le_of_ble_eq_true rfl) (Nat.le_of_ble_eq_true rfl) h
set_option maxHeartbeats 4000000 in
set_option maxRecDepth 100000 in
theorem ctX11_mightCome {X : Cx_} {this : Nat} {a1 : Int32} {a2 : Int32} {a3 : Int32} {a4 : Int32} {a5 : Int32} {a6 : Int32} {M : Mm} {post : Int32 → Mm → Prop} (h : PX11_mightCome this a1 a2 a3 a4 a5 a6 M post) : CT X mX11_mightCome rX11_mightCome [.inr (.inr (some this)), .inl a1, .inl a2, .inl a3, .inl a4, .inl a5, .inl a6] M (pI_ post) := by
  unfold PX11_mightCome at h
  refine CT.of (by decide +kernel) (Nat.le_of_ble_eq_true rfl) ?_
  show VV X mX11_mightCome rX11_mightCome (pI_ post) 0 [(0, .inr (.inr (some this))), (1, .inl a1), (2, .inl a2), (3, .inl a3), (4, .inl a4), (5, .inl a5), (6, .inl a6)] [] M 0 0
  refine vv_aload_n (mi := mX11_mightCome) (pc := 0) 0 dX11_mightCome_0 rfl rfl ?_
  refine vv_iload_n (mi := mX11_mightCome) (pc := 1) 1 dX11_mightCome_1 rfl rfl ?_
  refine vv_iload_n (mi := mX11_mightCome) (pc := 2) 2 dX11_mightCome_2 rfl rfl ?_
  refine vv_iload_n (mi := mX11_mightCome) (pc := 3) 3 dX11_mightCome_3 rfl rfl ?_
  refine vv_iload (mi := mX11_mightCome) (pc := 4) 4 dX11_mightCome_4 rfl ?_
  refine vv_iload (mi := mX11_mightCome) (pc := 6) 5 dX11_mightCome_6 rfl ?_
  obtain ⟨ht1, h⟩ := h
  refine vv_callV (mi := mX11_mightCome) (pc := 8) (rest := []) (As := [.inl a1, .inl a2, .inl a3, .inl a4, .inl a5]) (ctX11_mayBlock (X := X) h) dX11_mightCome_8 rfl ht1 (Nat.le_of_ble_eq_true rfl) rfl mb_X11_mayBlock rfl ml_X11_153 im_X11_mayBlock se_X11_mayBlock ⟨(Nat.le_of_ble_eq_true rfl), (Nat.le_of_ble_eq_true rfl)⟩ ⟨(Nat.le_of_ble_eq_true rfl), (Nat.le_of_ble_eq_true rfl)⟩ (Nat.le_of_ble_eq_true rfl) rfl (kI_ (F := fun st M' => VV X mX11_mightCome rX11_mightCome (pI_ post) 11 [(0, .inr (.inr (some this))), (1, .inl a1), (2, .inl a2), (3, .inl a3), (4, .inl a4), (5, .inl a5), (6, .inl a6)] st M' 0 0) (fun r2 M3 h => ?_))
  refine vv_if_eq (mi := mX11_mightCome) (pc := 11) 27 dX11_mightCome_11 rfl (fun c4 => ?_) (fun c4 => ?_)
  · replace h := h.1 c4
    refine vv_bipush (mi := mX11_mightCome) (pc := 27) (-2) dX11_mightCome_27 rfl ?_
    exact vv_iret (mi := mX11_mightCome) (pc := 29) dX11_mightCome_29 rfl (Nat.le_of_ble_eq_true rfl) (Nat.le_of_ble_eq_true rfl) h
  · replace h := h.2 c4
    refine vv_iload (mi := mX11_mightCome) (pc := 14) 6 dX11_mightCome_14 rfl ?_
    refine vv_i2l (mi := mX11_mightCome) (pc := 16) dX11_mightCome_16 ?_
    refine vv_lconst (mi := mX11_mightCome) (pc := 17) 0 dX11_mightCome_17 rfl ?_
    refine vv_ldc2 (mi := mX11_mightCome) (pc := 18) 1000000 dX11_mightCome_18 kl_X11_277 ?_
    refine vv_callS (mi := mX11_mightCome) (pc := 21) (rest := []) (As := [.inr (.inl (Int32.toInt64 a6)), .inr (.inl 0), .inr (.inl 1000000)]) (ctX11_in (X := X) h) dX11_mightCome_21 mb_X11_in rfl ml_X11_110 sc_X11_in ⟨(Nat.le_of_ble_eq_true rfl), (Nat.le_of_ble_eq_true rfl)⟩ ⟨(Nat.le_of_ble_eq_true rfl), (Nat.le_of_ble_eq_true rfl)⟩ (Nat.le_of_ble_eq_true rfl) rfl (kI_ (F := fun st M' => VV X mX11_mightCome rX11_mightCome (pI_ post) 24 [(0, .inr (.inr (some this))), (1, .inl a1), (2, .inl a2), (3, .inl a3), (4, .inl a4), (5, .inl a5), (6, .inl a6)] st M' 0 0) (fun r5 M6 h => ?_))
    refine vv_if_ne (mi := mX11_mightCome) (pc := 24) 30 dX11_mightCome_24 rfl (fun c7 => ?_) (fun c7 => ?_)
    · replace h := h.1 c7
      refine vv_aload_n (mi := mX11_mightCome) (pc := 30) 0 dX11_mightCome_30 rfl rfl ?_
      obtain ⟨ht8, h⟩ := h
      refine vv_getI (mi := mX11_mightCome) (pc := 31) 11 35 rfl ht8 fl_X11_285 (Nat.le_of_ble_eq_true rfl) dX11_mightCome_31 ?_
      refine vv_bipush (mi := mX11_mightCome) (pc := 34) 8 dX11_mightCome_34 rfl ?_
      refine vv_icmp_ne (mi := mX11_mightCome) (pc := 36) 42 dX11_mightCome_36 rfl (fun c9 => ?_) (fun c9 => ?_)
      · replace h := h.1 c9
        refine vv_aload_n (mi := mX11_mightCome) (pc := 42) 0 dX11_mightCome_42 rfl rfl ?_
        refine vv_bipush (mi := mX11_mightCome) (pc := 43) 121 dX11_mightCome_43 rfl ?_
        refine vv_aload_n (mi := mX11_mightCome) (pc := 45) 0 dX11_mightCome_45 rfl rfl ?_
        refine vv_getI (mi := mX11_mightCome) (pc := 46) 11 35 rfl ht8 fl_X11_285 (Nat.le_of_ble_eq_true rfl) dX11_mightCome_46 ?_
        refine vv_iadd (mi := mX11_mightCome) (pc := 49) dX11_mightCome_49 ?_
        refine vv_iconst (mi := mX11_mightCome) (pc := 50) 0 dX11_mightCome_50 rfl ?_
        refine vv_iload_n (mi := mX11_mightCome) (pc := 51) 1 dX11_mightCome_51 rfl rfl ?_
        refine vv_iload_n (mi := mX11_mightCome) (pc := 52) 2 dX11_mightCome_52 rfl rfl ?_
        refine vv_iload_n (mi := mX11_mightCome) (pc := 53) 3 dX11_mightCome_53 rfl rfl ?_
        refine vv_iload (mi := mX11_mightCome) (pc := 54) 4 dX11_mightCome_54 rfl ?_
        refine vv_iload (mi := mX11_mightCome) (pc := 56) 4 dX11_mightCome_56 rfl ?_
        refine vv_iload (mi := mX11_mightCome) (pc := 58) 5 dX11_mightCome_58 rfl ?_
        refine vv_iconst (mi := mX11_mightCome) (pc := 60) (-1) dX11_mightCome_60 rfl ?_
        refine vv_callV (mi := mX11_mightCome) (pc := 61) (rest := []) (As := [.inl (121 + (ddI M6 this 35)), .inl 0, .inl a1, .inl a2, .inl a3, .inl a4, .inl a4, .inl a5, .inl (-1)]) (ctX11_put (X := X) h) dX11_mightCome_61 rfl ht8 (Nat.le_of_ble_eq_true rfl) rfl mb_X11_put rfl ml_X11_133 im_X11_put se_X11_put ⟨(Nat.le_of_ble_eq_true rfl), (Nat.le_of_ble_eq_true rfl)⟩ ⟨(Nat.le_of_ble_eq_true rfl), (Nat.le_of_ble_eq_true rfl)⟩ (Nat.le_of_ble_eq_true rfl) rfl (kI_ (F := fun st M' => VV X mX11_mightCome rX11_mightCome (pI_ post) 64 [(0, .inr (.inr (some this))), (1, .inl a1), (2, .inl a2), (3, .inl a3), (4, .inl a4), (5, .inl a5), (6, .inl a6)] st M' 0 0) (fun r10 M11 h => ?_))
        refine vv_istore (mi := mX11_mightCome) (pc := 64) [(7, .inl r10), (0, .inr (.inr (some this))), (1, .inl a1), (2, .inl a2), (3, .inl a3), (4, .inl a4), (5, .inl a5), (6, .inl a6)] dX11_mightCome_64 (Nat.le_of_ble_eq_true rfl) rfl ?_
        refine vv_aload_n (mi := mX11_mightCome) (pc := 66) 1 dX11_mightCome_66 rfl rfl ?_
        obtain ⟨ht12, h⟩ := h
        refine vv_getR (mi := mX11_mightCome) (pc := 67) 11 36 rfl ht12 fl_X11_102 (Nat.le_of_ble_eq_true rfl) dX11_mightCome_67 ?_
        refine vv_aload_n (mi := mX11_mightCome) (pc := 70) 1 dX11_mightCome_70 rfl rfl ?_
        refine vv_getI (mi := mX11_mightCome) (pc := 71) 11 35 rfl ht12 fl_X11_285 (Nat.le_of_ble_eq_true rfl) dX11_mightCome_71 ?_
        refine vv_iload (mi := mX11_mightCome) (pc := 74) 7 dX11_mightCome_74 rfl ?_
        obtain ⟨aq13, hs14, h⟩ := h
        obtain ⟨ht15, h⟩ := h
        obtain ⟨hi16, h⟩ := h
        obtain ⟨M17, eM17⟩ : ∃ z : Mm, z = suI M11 aq13 (Int32.toNatClampNeg (ddI M11 this 35)) a6 := ⟨_, rfl⟩
        replace h := h _ eM17
        refine vv_iast (mi := mX11_mightCome) (pc := 76) hs14 ht15 hi16 dX11_mightCome_76 eM17 ?_
        refine vv_aload_n (mi := mX11_mightCome) (pc := 77) 1 dX11_mightCome_77 rfl rfl ?_
        refine vv_dup (mi := mX11_mightCome) (pc := 78) dX11_mightCome_78 rfl ?_
        refine vv_getI (mi := mX11_mightCome) (pc := 79) 11 35 rfl (tgI_ eM17 ht12) fl_X11_285 (Nat.le_of_ble_eq_true rfl) dX11_mightCome_79 ?_
        refine vv_iconst (mi := mX11_mightCome) (pc := 82) 1 dX11_mightCome_82 rfl ?_
        refine vv_iadd (mi := mX11_mightCome) (pc := 83) dX11_mightCome_83 ?_
        obtain ⟨M18, eM18⟩ : ∃ z : Mm, z = suI M17 this 35 ((ddI M17 this 35) + 1) := ⟨_, rfl⟩
        replace h := h _ eM18
        refine vv_putI (mi := mX11_mightCome) (pc := 84) 11 35 rfl (tgI_ eM17 ht12) fq_X11_285 (fun q => by cases q) rfl (Nat.le_of_ble_eq_true rfl) dX11_mightCome_84 eM18 ?_
        refine vv_aload_n (mi := mX11_mightCome) (pc := 87) 1 dX11_mightCome_87 rfl rfl ?_
        refine vv_getI (mi := mX11_mightCome) (pc := 88) 11 35 rfl (tgI_ eM18 (tgI_ eM17 ht12)) fl_X11_285 (Nat.le_of_ble_eq_true rfl) dX11_mightCome_88 ?_
        refine vv_iconst (mi := mX11_mightCome) (pc := 91) 1 dX11_mightCome_91 rfl ?_
        refine vv_isub (mi := mX11_mightCome) (pc := 92) dX11_mightCome_92 ?_
        exact vv_iret (mi := mX11_mightCome) (pc := 93) dX11_mightCome_93 rfl (Nat.le_of_ble_eq_true rfl) (Nat.le_of_ble_eq_true rfl) h
      · replace h := h.2 c9
        refine vv_bipush (mi := mX11_mightCome) (pc := 39) (-3) dX11_mightCome_39 rfl ?_
        exact vv_iret (mi := mX11_mightCome) (pc := 41) dX11_mightCome_41 rfl (Nat.le_of_ble_eq_true rfl) (Nat.le_of_ble_eq_true rfl) h
    · replace h := h.2 c7
      refine vv_bipush (mi := mX11_mightCome) (pc := 27) (-2) dX11_mightCome_27 rfl ?_
      exact vv_iret (mi := mX11_mightCome) (pc := 29) dX11_mightCome_29 rfl (Nat.le_of_ble_eq_true rfl) (Nat.le_of_ble_eq_true rfl) h
set_option maxHeartbeats 4000000 in
set_option maxRecDepth 100000 in
theorem bX11_mayAll_97 {X : Cx_} {kb4 : Nat → Int32 → Int32 → Int32 → Mm → Prop} {kb97 : Nat → Int32 → Int32 → Int32 → Int32 → Int32 → Int32 → Mm → Prop} {post : Int32 → Mm → Prop} (hb4 : ∀ (this : Nat) (x1 : Int32) (x2 : Int32) (x3 : Int32) (M : Mm), kb4 this x1 x2 x3 M → VV X mX11_mayAll rX11_mayAll (pI_ post) 4 [(0, .inr (.inr (some this))), (1, .inl x1), (2, .inl x2), (3, .inl x3)] [] M 0 0) (hb97 : ∀ (this : Nat) (x1 : Int32) (x2 : Int32) (x3 : Int32) (x4 : Int32) (x5 : Int32) (x6 : Int32) (M : Mm), kb97 this x1 x2 x3 x4 x5 x6 M → VV X mX11_mayAll rX11_mayAll (pI_ post) 97 [(0, .inr (.inr (some this))), (1, .inl x1), (2, .inl x2), (3, .inl x3), (4, .inl x4), (5, .inl x5), (6, .inl x6)] [] M 0 0) {this : Nat} {x1 : Int32} {x2 : Int32} {x3 : Int32} {x4 : Int32} {x5 : Int32} {x6 : Int32} {M : Mm} (h : BX11_mayAll_97 kb4 kb97 post this x1 x2 x3 x4 x5 x6 M) : VV X mX11_mayAll rX11_mayAll (pI_ post) 97 [(0, .inr (.inr (some this))), (1, .inl x1), (2, .inl x2), (3, .inl x3), (4, .inl x4), (5, .inl x5), (6, .inl x6)] [] M 0 0 := by
  unfold BX11_mayAll_97 at h
  refine vv_iload (mi := mX11_mayAll) (pc := 97) 6 dX11_mayAll_97 rfl ?_
  refine vv_aload_n (mi := mX11_mayAll) (pc := 99) 0 dX11_mayAll_99 rfl rfl ?_
  obtain ⟨ht21, h⟩ := h
  refine vv_getI (mi := mX11_mayAll) (pc := 100) 11 35 rfl ht21 fl_X11_285 (Nat.le_of_ble_eq_true rfl) dX11_mayAll_100 ?_
  refine vv_icmp_ge (mi := mX11_mayAll) (pc := 103) 159 dX11_mayAll_103 rfl (fun c22 => ?_) (fun c22 => ?_)
  · replace h := h.1 c22
    refine vv_iinc (mi := mX11_mayAll) (pc := 159) (x3 + 1) 3 [(3, .inl (x3 + 1)), (0, .inr (.inr (some this))), (1, .inl x1), (2, .inl x2), (4, .inl x4), (5, .inl x5), (6, .inl x6)] dX11_mayAll_159 rfl rfl (Nat.le_of_ble_eq_true rfl) rfl ?_
    refine vv_goto (mi := mX11_mayAll) (pc := 162) 4 dX11_mayAll_162 rfl ?_
    refine vv_sub (mi := mX11_mayAll) [(0, .inr (.inr (some this))), (1, .inl x1), (2, .inl x2), (3, .inl (x3 + 1))] [1, 2, 3, 0] rfl ?_
    exact hb4 _ _ _ _ _ h
  · replace h := h.2 c22
    refine vv_iload (mi := mX11_mayAll) (pc := 106) 6 dX11_mayAll_106 rfl ?_
    refine vv_iload_n (mi := mX11_mayAll) (pc := 108) 3 dX11_mayAll_108 rfl rfl ?_
    refine vv_icmp_eq (mi := mX11_mayAll) (pc := 109) 153 dX11_mayAll_109 rfl (fun c23 => ?_) (fun c23 => ?_)
    · replace h := h.1 c23
      refine vv_iinc (mi := mX11_mayAll) (pc := 153) (x6 + 1) 6 [(6, .inl (x6 + 1)), (0, .inr (.inr (some this))), (1, .inl x1), (2, .inl x2), (3, .inl x3), (4, .inl x4), (5, .inl x5)] dX11_mayAll_153 rfl rfl (Nat.le_of_ble_eq_true rfl) rfl ?_
      refine vv_goto (mi := mX11_mayAll) (pc := 156) 97 dX11_mayAll_156 rfl ?_
      refine vv_sub (mi := mX11_mayAll) [(0, .inr (.inr (some this))), (1, .inl x1), (2, .inl x2), (3, .inl x3), (4, .inl x4), (5, .inl x5), (6, .inl (x6 + 1))] [1, 2, 3, 4, 5, 6, 0] rfl ?_
      exact hb97 _ _ _ _ _ _ _ _ h
    · replace h := h.2 c23
      refine vv_iload_n (mi := mX11_mayAll) (pc := 112) 1 dX11_mayAll_112 rfl rfl ?_
      refine vv_iload (mi := mX11_mayAll) (pc := 113) 6 dX11_mayAll_113 rfl ?_
      refine vv_ishr (mi := mX11_mayAll) (pc := 115) dX11_mayAll_115 ?_
      refine vv_iconst (mi := mX11_mayAll) (pc := 116) 1 dX11_mayAll_116 rfl ?_
      refine vv_iand (mi := mX11_mayAll) (pc := 117) dX11_mayAll_117 ?_
      refine vv_iconst (mi := mX11_mayAll) (pc := 118) 1 dX11_mayAll_118 rfl ?_
      refine vv_icmp_ne (mi := mX11_mayAll) (pc := 119) 153 dX11_mayAll_119 rfl (fun c24 => ?_) (fun c24 => ?_)
      · replace h := h.1 c24
        refine vv_iinc (mi := mX11_mayAll) (pc := 153) (x6 + 1) 6 [(6, .inl (x6 + 1)), (0, .inr (.inr (some this))), (1, .inl x1), (2, .inl x2), (3, .inl x3), (4, .inl x4), (5, .inl x5)] dX11_mayAll_153 rfl rfl (Nat.le_of_ble_eq_true rfl) rfl ?_
        refine vv_goto (mi := mX11_mayAll) (pc := 156) 97 dX11_mayAll_156 rfl ?_
        refine vv_sub (mi := mX11_mayAll) [(0, .inr (.inr (some this))), (1, .inl x1), (2, .inl x2), (3, .inl x3), (4, .inl x4), (5, .inl x5), (6, .inl (x6 + 1))] [1, 2, 3, 4, 5, 6, 0] rfl ?_
        exact hb97 _ _ _ _ _ _ _ _ h
      · replace h := h.2 c24
        refine vv_aload_n (mi := mX11_mayAll) (pc := 122) 0 dX11_mayAll_122 rfl rfl ?_
        refine vv_getR (mi := mX11_mayAll) (pc := 123) 11 8 rfl ht21 fl_X11_28 (Nat.le_of_ble_eq_true rfl) dX11_mayAll_123 ?_
        refine vv_bipush (mi := mX11_mayAll) (pc := 126) 121 dX11_mayAll_126 rfl ?_
        refine vv_iload (mi := mX11_mayAll) (pc := 128) 6 dX11_mayAll_128 rfl ?_
        refine vv_iadd (mi := mX11_mayAll) (pc := 130) dX11_mayAll_130 ?_
        obtain ⟨aq25, hs26, h⟩ := h
        obtain ⟨ht27, h⟩ := h
        obtain ⟨hi28, h⟩ := h
        refine vv_iald (mi := mX11_mayAll) (pc := 131) hs26 ht27 hi28 dX11_mayAll_131 ?_
        refine vv_iload (mi := mX11_mayAll) (pc := 132) 5 dX11_mayAll_132 rfl ?_
        refine vv_icmp_gt (mi := mX11_mayAll) (pc := 134) 153 dX11_mayAll_134 rfl (fun c29 => ?_) (fun c29 => ?_)
        · replace h := h.1 c29
          refine vv_iinc (mi := mX11_mayAll) (pc := 153) (x6 + 1) 6 [(6, .inl (x6 + 1)), (0, .inr (.inr (some this))), (1, .inl x1), (2, .inl x2), (3, .inl x3), (4, .inl x4), (5, .inl x5)] dX11_mayAll_153 rfl rfl (Nat.le_of_ble_eq_true rfl) rfl ?_
          refine vv_goto (mi := mX11_mayAll) (pc := 156) 97 dX11_mayAll_156 rfl ?_
          refine vv_sub (mi := mX11_mayAll) [(0, .inr (.inr (some this))), (1, .inl x1), (2, .inl x2), (3, .inl x3), (4, .inl x4), (5, .inl x5), (6, .inl (x6 + 1))] [1, 2, 3, 4, 5, 6, 0] rfl ?_
          exact hb97 _ _ _ _ _ _ _ _ h
        · replace h := h.2 c29
          refine vv_aload_n (mi := mX11_mayAll) (pc := 137) 0 dX11_mayAll_137 rfl rfl ?_
          refine vv_iload (mi := mX11_mayAll) (pc := 138) 4 dX11_mayAll_138 rfl ?_
          refine vv_bipush (mi := mX11_mayAll) (pc := 140) 121 dX11_mayAll_140 rfl ?_
          refine vv_iload (mi := mX11_mayAll) (pc := 142) 6 dX11_mayAll_142 rfl ?_
          refine vv_iadd (mi := mX11_mayAll) (pc := 144) dX11_mayAll_144 ?_
          refine vv_callV (mi := mX11_mayAll) (pc := 145) (rest := []) (As := [.inl x4, .inl (121 + x6)]) (ctX11_isPair (X := X) h) dX11_mayAll_145 rfl ht21 (Nat.le_of_ble_eq_true rfl) rfl mb_X11_isPair rfl ml_X11_200 im_X11_isPair se_X11_isPair ⟨(Nat.le_of_ble_eq_true rfl), (Nat.le_of_ble_eq_true rfl)⟩ ⟨(Nat.le_of_ble_eq_true rfl), (Nat.le_of_ble_eq_true rfl)⟩ (Nat.le_of_ble_eq_true rfl) rfl (kI_ (F := fun st M' => VV X mX11_mayAll rX11_mayAll (pI_ post) 148 [(0, .inr (.inr (some this))), (1, .inl x1), (2, .inl x2), (3, .inl x3), (4, .inl x4), (5, .inl x5), (6, .inl x6)] st M' 0 0) (fun r30 M31 h => ?_))
          refine vv_if_eq (mi := mX11_mayAll) (pc := 148) 153 dX11_mayAll_148 rfl (fun c32 => ?_) (fun c32 => ?_)
          · replace h := h.1 c32
            refine vv_iinc (mi := mX11_mayAll) (pc := 153) (x6 + 1) 6 [(6, .inl (x6 + 1)), (0, .inr (.inr (some this))), (1, .inl x1), (2, .inl x2), (3, .inl x3), (4, .inl x4), (5, .inl x5)] dX11_mayAll_153 rfl rfl (Nat.le_of_ble_eq_true rfl) rfl ?_
            refine vv_goto (mi := mX11_mayAll) (pc := 156) 97 dX11_mayAll_156 rfl ?_
            refine vv_sub (mi := mX11_mayAll) [(0, .inr (.inr (some this))), (1, .inl x1), (2, .inl x2), (3, .inl x3), (4, .inl x4), (5, .inl x5), (6, .inl (x6 + 1))] [1, 2, 3, 4, 5, 6, 0] rfl ?_
            exact hb97 _ _ _ _ _ _ _ _ h
          · replace h := h.2 c32
            refine vv_iconst (mi := mX11_mayAll) (pc := 151) 0 dX11_mayAll_151 rfl ?_
            exact vv_zret (mi := mX11_mayAll) (pc := 152) dX11_mayAll_152 rfl (Or.inl rfl) (Nat.le_of_ble_eq_true rfl) (Nat.le_of_ble_eq_true rfl) h
theorem loX11_mayAll_97 {X : Cx_} {kb4 : Nat → Int32 → Int32 → Int32 → Mm → Prop} {post : Int32 → Mm → Prop} (hb4 : ∀ (this : Nat) (x1 : Int32) (x2 : Int32) (x3 : Int32) (M : Mm), kb4 this x1 x2 x3 M → VV X mX11_mayAll rX11_mayAll (pI_ post) 4 [(0, .inr (.inr (some this))), (1, .inl x1), (2, .inl x2), (3, .inl x3)] [] M 0 0) : ∀ (fu : Nat) {this : Nat} {x1 : Int32} {x2 : Int32} {x3 : Int32} {x4 : Int32} {x5 : Int32} {x6 : Int32} {M : Mm}, DX11_mayAll_97 kb4 post fu this x1 x2 x3 x4 x5 x6 M → VV X mX11_mayAll rX11_mayAll (pI_ post) 97 [(0, .inr (.inr (some this))), (1, .inl x1), (2, .inl x2), (3, .inl x3), (4, .inl x4), (5, .inl x5), (6, .inl x6)] [] M 0 0
  | 0, _, _, _, _, _, _, _, _, h => False.elim h
  | fu + 1, _, _, _, _, _, _, _, _, h => bX11_mayAll_97 hb4 (fun this x1 x2 x3 x4 x5 x6 M h => loX11_mayAll_97 hb4 fu h) h
set_option maxHeartbeats 4000000 in
set_option maxRecDepth 100000 in
theorem bX11_mayAll_55 {X : Cx_} {kb4 : Nat → Int32 → Int32 → Int32 → Mm → Prop} {kb55 : Nat → Int32 → Int32 → Int32 → Int32 → Int32 → Int32 → Mm → Prop} {post : Int32 → Mm → Prop} (hb4 : ∀ (this : Nat) (x1 : Int32) (x2 : Int32) (x3 : Int32) (M : Mm), kb4 this x1 x2 x3 M → VV X mX11_mayAll rX11_mayAll (pI_ post) 4 [(0, .inr (.inr (some this))), (1, .inl x1), (2, .inl x2), (3, .inl x3)] [] M 0 0) (hb55 : ∀ (this : Nat) (x1 : Int32) (x2 : Int32) (x3 : Int32) (x4 : Int32) (x5 : Int32) (x6 : Int32) (M : Mm), kb55 this x1 x2 x3 x4 x5 x6 M → VV X mX11_mayAll rX11_mayAll (pI_ post) 55 [(0, .inr (.inr (some this))), (1, .inl x1), (2, .inl x2), (3, .inl x3), (4, .inl x4), (5, .inl x5), (6, .inl x6)] [] M 0 0) {this : Nat} {x1 : Int32} {x2 : Int32} {x3 : Int32} {x4 : Int32} {x5 : Int32} {x6 : Int32} {M : Mm} (h : BX11_mayAll_55 kb4 kb55 post this x1 x2 x3 x4 x5 x6 M) : VV X mX11_mayAll rX11_mayAll (pI_ post) 55 [(0, .inr (.inr (some this))), (1, .inl x1), (2, .inl x2), (3, .inl x3), (4, .inl x4), (5, .inl x5), (6, .inl x6)] [] M 0 0 := by
  unfold BX11_mayAll_55 at h
  refine vv_iload (mi := mX11_mayAll) (pc := 55) 6 dX11_mayAll_55 rfl ?_
  refine vv_aload_n (mi := mX11_mayAll) (pc := 57) 0 dX11_mayAll_57 rfl rfl ?_
  obtain ⟨ht12, h⟩ := h
  refine vv_getI (mi := mX11_mayAll) (pc := 58) 11 1 rfl ht12 fl_X11_130 (Nat.le_of_ble_eq_true rfl) dX11_mayAll_58 ?_
  refine vv_icmp_ge (mi := mX11_mayAll) (pc := 61) 94 dX11_mayAll_61 rfl (fun c13 => ?_) (fun c13 => ?_)
  · replace h := h.1 c13
    refine vv_iconst (mi := mX11_mayAll) (pc := 94) 0 dX11_mayAll_94 rfl ?_
    refine vv_istore (mi := mX11_mayAll) (pc := 95) [(6, .inl 0), (0, .inr (.inr (some this))), (1, .inl x1), (2, .inl x2), (3, .inl x3), (4, .inl x4), (5, .inl x5)] dX11_mayAll_95 (Nat.le_of_ble_eq_true rfl) rfl ?_
    refine vv_sub (mi := mX11_mayAll) [(0, .inr (.inr (some this))), (1, .inl x1), (2, .inl x2), (3, .inl x3), (4, .inl x4), (5, .inl x5), (6, .inl 0)] [1, 2, 3, 4, 5, 6, 0] rfl ?_
    obtain ⟨fu, h⟩ := h
    exact loX11_mayAll_97 (X := X) hb4 fu h
  · replace h := h.2 c13
    refine vv_aload_n (mi := mX11_mayAll) (pc := 64) 0 dX11_mayAll_64 rfl rfl ?_
    refine vv_iload (mi := mX11_mayAll) (pc := 65) 6 dX11_mayAll_65 rfl ?_
    refine vv_iload (mi := mX11_mayAll) (pc := 67) 5 dX11_mayAll_67 rfl ?_
    refine vv_callV (mi := mX11_mayAll) (pc := 69) (rest := []) (As := [.inl x6, .inl x5]) (ctX11_isForce (X := X) h) dX11_mayAll_69 rfl ht12 (Nat.le_of_ble_eq_true rfl) rfl mb_X11_isForce rfl ml_X11_197 im_X11_isForce se_X11_isForce ⟨(Nat.le_of_ble_eq_true rfl), (Nat.le_of_ble_eq_true rfl)⟩ ⟨(Nat.le_of_ble_eq_true rfl), (Nat.le_of_ble_eq_true rfl)⟩ (Nat.le_of_ble_eq_true rfl) rfl (kI_ (F := fun st M' => VV X mX11_mayAll rX11_mayAll (pI_ post) 72 [(0, .inr (.inr (some this))), (1, .inl x1), (2, .inl x2), (3, .inl x3), (4, .inl x4), (5, .inl x5), (6, .inl x6)] st M' 0 0) (fun r14 M15 h => ?_))
    refine vv_if_eq (mi := mX11_mayAll) (pc := 72) 88 dX11_mayAll_72 rfl (fun c16 => ?_) (fun c16 => ?_)
    · replace h := h.1 c16
      refine vv_iinc (mi := mX11_mayAll) (pc := 88) (x6 + 1) 6 [(6, .inl (x6 + 1)), (0, .inr (.inr (some this))), (1, .inl x1), (2, .inl x2), (3, .inl x3), (4, .inl x4), (5, .inl x5)] dX11_mayAll_88 rfl rfl (Nat.le_of_ble_eq_true rfl) rfl ?_
      refine vv_goto (mi := mX11_mayAll) (pc := 91) 55 dX11_mayAll_91 rfl ?_
      refine vv_sub (mi := mX11_mayAll) [(0, .inr (.inr (some this))), (1, .inl x1), (2, .inl x2), (3, .inl x3), (4, .inl x4), (5, .inl x5), (6, .inl (x6 + 1))] [1, 2, 3, 4, 5, 6, 0] rfl ?_
      exact hb55 _ _ _ _ _ _ _ _ h
    · replace h := h.2 c16
      refine vv_aload_n (mi := mX11_mayAll) (pc := 75) 0 dX11_mayAll_75 rfl rfl ?_
      refine vv_iload (mi := mX11_mayAll) (pc := 76) 4 dX11_mayAll_76 rfl ?_
      refine vv_iload (mi := mX11_mayAll) (pc := 78) 6 dX11_mayAll_78 rfl ?_
      obtain ⟨ht17, h⟩ := h
      refine vv_callV (mi := mX11_mayAll) (pc := 80) (rest := []) (As := [.inl x4, .inl x6]) (ctX11_isPair (X := X) h) dX11_mayAll_80 rfl ht17 (Nat.le_of_ble_eq_true rfl) rfl mb_X11_isPair rfl ml_X11_200 im_X11_isPair se_X11_isPair ⟨(Nat.le_of_ble_eq_true rfl), (Nat.le_of_ble_eq_true rfl)⟩ ⟨(Nat.le_of_ble_eq_true rfl), (Nat.le_of_ble_eq_true rfl)⟩ (Nat.le_of_ble_eq_true rfl) rfl (kI_ (F := fun st M' => VV X mX11_mayAll rX11_mayAll (pI_ post) 83 [(0, .inr (.inr (some this))), (1, .inl x1), (2, .inl x2), (3, .inl x3), (4, .inl x4), (5, .inl x5), (6, .inl x6)] st M' 0 0) (fun r18 M19 h => ?_))
      refine vv_if_eq (mi := mX11_mayAll) (pc := 83) 88 dX11_mayAll_83 rfl (fun c20 => ?_) (fun c20 => ?_)
      · replace h := h.1 c20
        refine vv_iinc (mi := mX11_mayAll) (pc := 88) (x6 + 1) 6 [(6, .inl (x6 + 1)), (0, .inr (.inr (some this))), (1, .inl x1), (2, .inl x2), (3, .inl x3), (4, .inl x4), (5, .inl x5)] dX11_mayAll_88 rfl rfl (Nat.le_of_ble_eq_true rfl) rfl ?_
        refine vv_goto (mi := mX11_mayAll) (pc := 91) 55 dX11_mayAll_91 rfl ?_
        refine vv_sub (mi := mX11_mayAll) [(0, .inr (.inr (some this))), (1, .inl x1), (2, .inl x2), (3, .inl x3), (4, .inl x4), (5, .inl x5), (6, .inl (x6 + 1))] [1, 2, 3, 4, 5, 6, 0] rfl ?_
        exact hb55 _ _ _ _ _ _ _ _ h
      · replace h := h.2 c20
        refine vv_iconst (mi := mX11_mayAll) (pc := 86) 0 dX11_mayAll_86 rfl ?_
        exact vv_zret (mi := mX11_mayAll) (pc := 87) dX11_mayAll_87 rfl (Or.inl rfl) (Nat.le_of_ble_eq_true rfl) (Nat.le_of_ble_eq_true rfl) h
theorem loX11_mayAll_55 {X : Cx_} {kb4 : Nat → Int32 → Int32 → Int32 → Mm → Prop} {post : Int32 → Mm → Prop} (hb4 : ∀ (this : Nat) (x1 : Int32) (x2 : Int32) (x3 : Int32) (M : Mm), kb4 this x1 x2 x3 M → VV X mX11_mayAll rX11_mayAll (pI_ post) 4 [(0, .inr (.inr (some this))), (1, .inl x1), (2, .inl x2), (3, .inl x3)] [] M 0 0) : ∀ (fu : Nat) {this : Nat} {x1 : Int32} {x2 : Int32} {x3 : Int32} {x4 : Int32} {x5 : Int32} {x6 : Int32} {M : Mm}, DX11_mayAll_55 kb4 post fu this x1 x2 x3 x4 x5 x6 M → VV X mX11_mayAll rX11_mayAll (pI_ post) 55 [(0, .inr (.inr (some this))), (1, .inl x1), (2, .inl x2), (3, .inl x3), (4, .inl x4), (5, .inl x5), (6, .inl x6)] [] M 0 0
  | 0, _, _, _, _, _, _, _, _, h => False.elim h
  | fu + 1, _, _, _, _, _, _, _, _, h => bX11_mayAll_55 hb4 (fun this x1 x2 x3 x4 x5 x6 M h => loX11_mayAll_55 hb4 fu h) h
set_option maxHeartbeats 4000000 in
set_option maxRecDepth 100000 in
theorem bX11_mayAll_4 {X : Cx_} {kb4 : Nat → Int32 → Int32 → Int32 → Mm → Prop} {post : Int32 → Mm → Prop} (hb4 : ∀ (this : Nat) (x1 : Int32) (x2 : Int32) (x3 : Int32) (M : Mm), kb4 this x1 x2 x3 M → VV X mX11_mayAll rX11_mayAll (pI_ post) 4 [(0, .inr (.inr (some this))), (1, .inl x1), (2, .inl x2), (3, .inl x3)] [] M 0 0) {this : Nat} {x1 : Int32} {x2 : Int32} {x3 : Int32} {M : Mm} (h : BX11_mayAll_4 kb4 post this x1 x2 x3 M) : VV X mX11_mayAll rX11_mayAll (pI_ post) 4 [(0, .inr (.inr (some this))), (1, .inl x1), (2, .inl x2), (3, .inl x3)] [] M 0 0 := by
  unfold BX11_mayAll_4 at h
  refine vv_iload_n (mi := mX11_mayAll) (pc := 4) 3 dX11_mayAll_4 rfl rfl ?_
  refine vv_aload_n (mi := mX11_mayAll) (pc := 5) 0 dX11_mayAll_5 rfl rfl ?_
  obtain ⟨ht1, h⟩ := h
  refine vv_getI (mi := mX11_mayAll) (pc := 6) 11 35 rfl ht1 fl_X11_285 (Nat.le_of_ble_eq_true rfl) dX11_mayAll_6 ?_
  refine vv_icmp_ge (mi := mX11_mayAll) (pc := 9) 165 dX11_mayAll_9 rfl (fun c2 => ?_) (fun c2 => ?_)
  · replace h := h.1 c2
    refine vv_aload_n (mi := mX11_mayAll) (pc := 165) 0 dX11_mayAll_165 rfl rfl ?_
    refine vv_getI (mi := mX11_mayAll) (pc := 166) 11 1 rfl ht1 fl_X11_130 (Nat.le_of_ble_eq_true rfl) dX11_mayAll_166 ?_
    refine vv_iload_n (mi := mX11_mayAll) (pc := 169) 2 dX11_mayAll_169 rfl rfl ?_
    refine vv_iadd (mi := mX11_mayAll) (pc := 170) dX11_mayAll_170 ?_
    refine vv_bipush (mi := mX11_mayAll) (pc := 171) 120 dX11_mayAll_171 rfl ?_
    refine vv_icmp_gt (mi := mX11_mayAll) (pc := 173) 180 dX11_mayAll_173 rfl (fun c3 => ?_) (fun c3 => ?_)
    · replace h := h.1 c3
      refine vv_iconst (mi := mX11_mayAll) (pc := 180) 0 dX11_mayAll_180 rfl ?_
      exact vv_zret (mi := mX11_mayAll) (pc := 181) dX11_mayAll_181 rfl (Or.inl rfl) (Nat.le_of_ble_eq_true rfl) (Nat.le_of_ble_eq_true rfl) h
    · replace h := h.2 c3
      refine vv_iconst (mi := mX11_mayAll) (pc := 176) 1 dX11_mayAll_176 rfl ?_
      refine vv_goto (mi := mX11_mayAll) (pc := 177) 181 dX11_mayAll_177 rfl ?_
      exact vv_zret (mi := mX11_mayAll) (pc := 181) dX11_mayAll_181 rfl (Or.inr rfl) (Nat.le_of_ble_eq_true rfl) (Nat.le_of_ble_eq_true rfl) h
  · replace h := h.2 c2
    refine vv_iload_n (mi := mX11_mayAll) (pc := 12) 1 dX11_mayAll_12 rfl rfl ?_
    refine vv_iload_n (mi := mX11_mayAll) (pc := 13) 3 dX11_mayAll_13 rfl rfl ?_
    refine vv_ishr (mi := mX11_mayAll) (pc := 14) dX11_mayAll_14 ?_
    refine vv_iconst (mi := mX11_mayAll) (pc := 15) 1 dX11_mayAll_15 rfl ?_
    refine vv_iand (mi := mX11_mayAll) (pc := 16) dX11_mayAll_16 ?_
    refine vv_if_ne (mi := mX11_mayAll) (pc := 17) 23 dX11_mayAll_17 rfl (fun c4 => ?_) (fun c4 => ?_)
    · replace h := h.1 c4
      refine vv_iinc (mi := mX11_mayAll) (pc := 23) (x2 + 1) 2 [(2, .inl (x2 + 1)), (0, .inr (.inr (some this))), (1, .inl x1), (3, .inl x3)] dX11_mayAll_23 rfl rfl (Nat.le_of_ble_eq_true rfl) rfl ?_
      refine vv_bipush (mi := mX11_mayAll) (pc := 26) 121 dX11_mayAll_26 rfl ?_
      refine vv_iload_n (mi := mX11_mayAll) (pc := 28) 3 dX11_mayAll_28 rfl rfl ?_
      refine vv_iadd (mi := mX11_mayAll) (pc := 29) dX11_mayAll_29 ?_
      obtain ⟨v5, ev5⟩ : ∃ z : Int32, z = (121 + x3) := ⟨_, rfl⟩
      refine vv_namI ev5 ?_
      replace h := h _ ev5
      refine vv_istore (mi := mX11_mayAll) (pc := 30) [(4, .inl v5), (2, .inl (x2 + 1)), (0, .inr (.inr (some this))), (1, .inl x1), (3, .inl x3)] dX11_mayAll_30 (Nat.le_of_ble_eq_true rfl) rfl ?_
      refine vv_aload_n (mi := mX11_mayAll) (pc := 32) 2 dX11_mayAll_32 rfl rfl ?_
      refine vv_getR (mi := mX11_mayAll) (pc := 33) 11 8 rfl ht1 fl_X11_28 (Nat.le_of_ble_eq_true rfl) dX11_mayAll_33 ?_
      refine vv_iload (mi := mX11_mayAll) (pc := 36) 0 dX11_mayAll_36 rfl ?_
      obtain ⟨aq6, hs7, h⟩ := h
      obtain ⟨ht8, h⟩ := h
      obtain ⟨hi9, h⟩ := h
      refine vv_iald (mi := mX11_mayAll) (pc := 38) hs7 ht8 hi9 dX11_mayAll_38 ?_
      obtain ⟨v10, ev10⟩ : ∃ z : Int32, z = (ddI M aq6 (Int32.toNatClampNeg v5)) := ⟨_, rfl⟩
      refine vv_namI ev10 ?_
      replace h := h _ ev10
      refine vv_istore (mi := mX11_mayAll) (pc := 39) [(5, .inl v10), (4, .inl v5), (2, .inl (x2 + 1)), (0, .inr (.inr (some this))), (1, .inl x1), (3, .inl x3)] dX11_mayAll_39 (Nat.le_of_ble_eq_true rfl) rfl ?_
      refine vv_iload (mi := mX11_mayAll) (pc := 41) 0 dX11_mayAll_41 rfl ?_
      refine vv_aload_n (mi := mX11_mayAll) (pc := 43) 3 dX11_mayAll_43 rfl rfl ?_
      refine vv_getI (mi := mX11_mayAll) (pc := 44) 11 0 rfl ht1 fl_X11_114 (Nat.le_of_ble_eq_true rfl) dX11_mayAll_44 ?_
      refine vv_icmp_ge (mi := mX11_mayAll) (pc := 47) 52 dX11_mayAll_47 rfl (fun c11 => ?_) (fun c11 => ?_)
      · replace h := h.1 c11
        refine vv_iconst (mi := mX11_mayAll) (pc := 52) 0 dX11_mayAll_52 rfl ?_
        refine vv_istore (mi := mX11_mayAll) (pc := 53) [(6, .inl 0), (5, .inl v10), (4, .inl v5), (2, .inl (x2 + 1)), (0, .inr (.inr (some this))), (1, .inl x1), (3, .inl x3)] dX11_mayAll_53 (Nat.le_of_ble_eq_true rfl) rfl ?_
        refine vv_sub (mi := mX11_mayAll) [(0, .inr (.inr (some this))), (1, .inl x1), (2, .inl (x2 + 1)), (3, .inl x3), (4, .inl v5), (5, .inl v10), (6, .inl 0)] [4, 5, 3, 6, 2, 1, 0] rfl ?_
        obtain ⟨fu, h⟩ := h
        exact loX11_mayAll_55 (X := X) hb4 fu h
      · replace h := h.2 c11
        refine vv_iconst (mi := mX11_mayAll) (pc := 50) 0 dX11_mayAll_50 rfl ?_
        exact vv_zret (mi := mX11_mayAll) (pc := 51) dX11_mayAll_51 rfl (Or.inl rfl) (Nat.le_of_ble_eq_true rfl) (Nat.le_of_ble_eq_true rfl) h
    · replace h := h.2 c4
      refine vv_goto (mi := mX11_mayAll) (pc := 20) 159 dX11_mayAll_20 rfl ?_
      refine vv_iinc (mi := mX11_mayAll) (pc := 159) (x3 + 1) 3 [(3, .inl (x3 + 1)), (0, .inr (.inr (some this))), (1, .inl x1), (2, .inl x2)] dX11_mayAll_159 rfl rfl (Nat.le_of_ble_eq_true rfl) rfl ?_
      refine vv_goto (mi := mX11_mayAll) (pc := 162) 4 dX11_mayAll_162 rfl ?_
      refine vv_sub (mi := mX11_mayAll) [(0, .inr (.inr (some this))), (1, .inl x1), (2, .inl x2), (3, .inl (x3 + 1))] [1, 2, 3, 0] rfl ?_
      exact hb4 _ _ _ _ _ h
theorem loX11_mayAll_4 {X : Cx_}  {post : Int32 → Mm → Prop}  : ∀ (fu : Nat) {this : Nat} {x1 : Int32} {x2 : Int32} {x3 : Int32} {M : Mm}, DX11_mayAll_4  post fu this x1 x2 x3 M → VV X mX11_mayAll rX11_mayAll (pI_ post) 4 [(0, .inr (.inr (some this))), (1, .inl x1), (2, .inl x2), (3, .inl x3)] [] M 0 0
  | 0, _, _, _, _, _, h => False.elim h
  | fu + 1, _, _, _, _, _, h => bX11_mayAll_4 (fun this x1 x2 x3 M h => loX11_mayAll_4  fu h) h
set_option maxHeartbeats 4000000 in
set_option maxRecDepth 100000 in
theorem ctX11_mayAll {X : Cx_} {this : Nat} {a1 : Int32} {M : Mm} {post : Int32 → Mm → Prop} (h : PX11_mayAll this a1 M post) : CT X mX11_mayAll rX11_mayAll [.inr (.inr (some this)), .inl a1] M (pI_ post) := by
  unfold PX11_mayAll at h
  refine CT.of (by decide +kernel) (Nat.le_of_ble_eq_true rfl) ?_
  show VV X mX11_mayAll rX11_mayAll (pI_ post) 0 [(0, .inr (.inr (some this))), (1, .inl a1)] [] M 0 0
  refine vv_iconst (mi := mX11_mayAll) (pc := 0) 0 dX11_mayAll_0 rfl ?_
  refine vv_istore_n (mi := mX11_mayAll) (pc := 1) [(2, .inl 0), (0, .inr (.inr (some this))), (1, .inl a1)] dX11_mayAll_1 rfl (Nat.le_of_ble_eq_true rfl) rfl ?_
  refine vv_iconst (mi := mX11_mayAll) (pc := 2) 0 dX11_mayAll_2 rfl ?_
  refine vv_istore_n (mi := mX11_mayAll) (pc := 3) [(3, .inl 0), (2, .inl 0), (0, .inr (.inr (some this))), (1, .inl a1)] dX11_mayAll_3 rfl (Nat.le_of_ble_eq_true rfl) rfl ?_
  refine vv_sub (mi := mX11_mayAll) [(0, .inr (.inr (some this))), (1, .inl a1), (2, .inl 0), (3, .inl 0)] [2, 3, 1, 0] rfl ?_
  obtain ⟨fu, h⟩ := h
  exact loX11_mayAll_4 (X := X)  fu h
set_option maxHeartbeats 4000000 in
set_option maxRecDepth 100000 in
theorem bX11_relief_127 {X : Cx_} {kb55 : Nat → Int32 → Int32 → Int32 → Int32 → Int32 → Int32 → Mm → Prop} {post : Int32 → Mm → Prop} (hb55 : ∀ (this : Nat) (x1 : Int32) (x2 : Int32) (x3 : Int32) (x4 : Int32) (x5 : Int32) (x6 : Int32) (M : Mm), kb55 this x1 x2 x3 x4 x5 x6 M → VV X mX11_relief rX11_relief (pI_ post) 55 [(0, .inr (.inr (some this))), (1, .inl x1), (2, .inl x2), (3, .inl x3), (4, .inl x4), (5, .inl x5), (6, .inl x6)] [] M 0 0) {this : Nat} {x1 : Int32} {x2 : Int32} {x3 : Int32} {x4 : Int32} {x5 : Int32} {x6 : Int32} {x7 : Int32} {M : Mm} (h : BX11_relief_127 kb55 post this x1 x2 x3 x4 x5 x6 x7 M) : VV X mX11_relief rX11_relief (pI_ post) 127 [(0, .inr (.inr (some this))), (1, .inl x1), (2, .inl x2), (3, .inl x3), (4, .inl x4), (5, .inl x5), (6, .inl x6), (7, .inl x7)] [] M 0 0 := by
  unfold BX11_relief_127 at h
  refine vv_aload_n (mi := mX11_relief) (pc := 127) 0 dX11_relief_127 rfl rfl ?_
  refine vv_iload (mi := mX11_relief) (pc := 128) 6 dX11_relief_128 rfl ?_
  obtain ⟨ht27, h⟩ := h
  refine vv_callV (mi := mX11_relief) (pc := 130) (rest := []) (As := [.inl x6]) (ctX11_mayAll (X := X) h) dX11_relief_130 rfl ht27 (Nat.le_of_ble_eq_true rfl) rfl mb_X11_mayAll rfl ml_X11_296 im_X11_mayAll se_X11_mayAll ⟨(Nat.le_of_ble_eq_true rfl), (Nat.le_of_ble_eq_true rfl)⟩ ⟨(Nat.le_of_ble_eq_true rfl), (Nat.le_of_ble_eq_true rfl)⟩ (Nat.le_of_ble_eq_true rfl) rfl (kI_ (F := fun st M' => VV X mX11_relief rX11_relief (pI_ post) 133 [(0, .inr (.inr (some this))), (1, .inl x1), (2, .inl x2), (3, .inl x3), (4, .inl x4), (5, .inl x5), (6, .inl x6), (7, .inl x7)] st M' 0 0) (fun r28 M29 h => ?_))
  refine vv_if_ne (mi := mX11_relief) (pc := 133) 139 dX11_relief_133 rfl (fun c30 => ?_) (fun c30 => ?_)
  · replace h := h.1 c30
    refine vv_aload_n (mi := mX11_relief) (pc := 139) 0 dX11_relief_139 rfl rfl ?_
    refine vv_iload_n (mi := mX11_relief) (pc := 140) 1 dX11_relief_140 rfl rfl ?_
    refine vv_iload (mi := mX11_relief) (pc := 141) 6 dX11_relief_141 rfl ?_
    obtain ⟨ht31, h⟩ := h
    refine vv_callV (mi := mX11_relief) (pc := 143) (rest := []) (As := [.inl x1, .inl x6]) (ctX11_shortageWith (X := X) h) dX11_relief_143 rfl ht31 (Nat.le_of_ble_eq_true rfl) rfl mb_X11_shortageWith rfl ml_X11_291 im_X11_shortageWith se_X11_shortageWith ⟨(Nat.le_of_ble_eq_true rfl), (Nat.le_of_ble_eq_true rfl)⟩ ⟨(Nat.le_of_ble_eq_true rfl), (Nat.le_of_ble_eq_true rfl)⟩ (Nat.le_of_ble_eq_true rfl) rfl (kI_ (F := fun st M' => VV X mX11_relief rX11_relief (pI_ post) 146 [(0, .inr (.inr (some this))), (1, .inl x1), (2, .inl x2), (3, .inl x3), (4, .inl x4), (5, .inl x5), (6, .inl x6), (7, .inl x7)] st M' 0 0) (fun r32 M33 h => ?_))
    refine vv_istore (mi := mX11_relief) (pc := 146) [(8, .inl r32), (0, .inr (.inr (some this))), (1, .inl x1), (2, .inl x2), (3, .inl x3), (4, .inl x4), (5, .inl x5), (6, .inl x6), (7, .inl x7)] dX11_relief_146 (Nat.le_of_ble_eq_true rfl) rfl ?_
    refine vv_iload (mi := mX11_relief) (pc := 148) 0 dX11_relief_148 rfl ?_
    refine vv_iconst (mi := mX11_relief) (pc := 150) (-1) dX11_relief_150 rfl ?_
    refine vv_icmp_eq (mi := mX11_relief) (pc := 151) 165 dX11_relief_151 rfl (fun c34 => ?_) (fun c34 => ?_)
    · replace h := h.1 c34
      refine vv_iload (mi := mX11_relief) (pc := 165) 7 dX11_relief_165 rfl ?_
      refine vv_istore (mi := mX11_relief) (pc := 167) [(4, .inl x6), (8, .inl r32), (0, .inr (.inr (some this))), (1, .inl x1), (2, .inl x2), (3, .inl x3), (5, .inl x5), (6, .inl x6), (7, .inl x7)] dX11_relief_167 (Nat.le_of_ble_eq_true rfl) rfl ?_
      refine vv_iload (mi := mX11_relief) (pc := 169) 8 dX11_relief_169 rfl ?_
      refine vv_istore (mi := mX11_relief) (pc := 171) [(5, .inl x7), (4, .inl x6), (8, .inl r32), (0, .inr (.inr (some this))), (1, .inl x1), (2, .inl x2), (3, .inl x3), (6, .inl x6), (7, .inl x7)] dX11_relief_171 (Nat.le_of_ble_eq_true rfl) rfl ?_
      refine vv_iinc (mi := mX11_relief) (pc := 173) (x6 + 1) 7 [(6, .inl (x6 + 1)), (5, .inl x7), (4, .inl x6), (8, .inl r32), (0, .inr (.inr (some this))), (1, .inl x1), (2, .inl x2), (3, .inl x3), (7, .inl x7)] dX11_relief_173 rfl rfl (Nat.le_of_ble_eq_true rfl) rfl ?_
      refine vv_goto (mi := mX11_relief) (pc := 176) 55 dX11_relief_176 rfl ?_
      refine vv_sub (mi := mX11_relief) [(0, .inr (.inr (some this))), (1, .inl x1), (2, .inl x2), (3, .inl x3), (4, .inl x6), (5, .inl x7), (6, .inl (x6 + 1))] [4, 5, 6, 7, 2, 1, 0] rfl ?_
      exact hb55 _ _ _ _ _ _ _ _ h
    · replace h := h.2 c34
      refine vv_iload (mi := mX11_relief) (pc := 154) 0 dX11_relief_154 rfl ?_
      refine vv_iload_n (mi := mX11_relief) (pc := 156) 4 dX11_relief_156 rfl rfl ?_
      refine vv_iload_n (mi := mX11_relief) (pc := 157) 3 dX11_relief_157 rfl rfl ?_
      refine vv_iadd (mi := mX11_relief) (pc := 158) dX11_relief_158 ?_
      refine vv_icmp_ge (mi := mX11_relief) (pc := 159) 165 dX11_relief_159 rfl (fun c35 => ?_) (fun c35 => ?_)
      · replace h := h.1 c35
        refine vv_iload (mi := mX11_relief) (pc := 165) 7 dX11_relief_165 rfl ?_
        refine vv_istore (mi := mX11_relief) (pc := 167) [(4, .inl x6), (8, .inl r32), (0, .inr (.inr (some this))), (1, .inl x1), (2, .inl x2), (3, .inl x3), (5, .inl x5), (6, .inl x6), (7, .inl x7)] dX11_relief_167 (Nat.le_of_ble_eq_true rfl) rfl ?_
        refine vv_iload (mi := mX11_relief) (pc := 169) 8 dX11_relief_169 rfl ?_
        refine vv_istore (mi := mX11_relief) (pc := 171) [(5, .inl x7), (4, .inl x6), (8, .inl r32), (0, .inr (.inr (some this))), (1, .inl x1), (2, .inl x2), (3, .inl x3), (6, .inl x6), (7, .inl x7)] dX11_relief_171 (Nat.le_of_ble_eq_true rfl) rfl ?_
        refine vv_iinc (mi := mX11_relief) (pc := 173) (x6 + 1) 7 [(6, .inl (x6 + 1)), (5, .inl x7), (4, .inl x6), (8, .inl r32), (0, .inr (.inr (some this))), (1, .inl x1), (2, .inl x2), (3, .inl x3), (7, .inl x7)] dX11_relief_173 rfl rfl (Nat.le_of_ble_eq_true rfl) rfl ?_
        refine vv_goto (mi := mX11_relief) (pc := 176) 55 dX11_relief_176 rfl ?_
        refine vv_sub (mi := mX11_relief) [(0, .inr (.inr (some this))), (1, .inl x1), (2, .inl x2), (3, .inl x3), (4, .inl x6), (5, .inl x7), (6, .inl (x6 + 1))] [4, 5, 6, 7, 2, 1, 0] rfl ?_
        exact hb55 _ _ _ _ _ _ _ _ h
      · replace h := h.2 c35
        refine vv_goto (mi := mX11_relief) (pc := 162) 173 dX11_relief_162 rfl ?_
        refine vv_iinc (mi := mX11_relief) (pc := 173) (x6 + 1) 7 [(6, .inl (x6 + 1)), (8, .inl r32), (0, .inr (.inr (some this))), (1, .inl x1), (2, .inl x2), (3, .inl x3), (4, .inl x4), (5, .inl x5), (7, .inl x7)] dX11_relief_173 rfl rfl (Nat.le_of_ble_eq_true rfl) rfl ?_
        refine vv_goto (mi := mX11_relief) (pc := 176) 55 dX11_relief_176 rfl ?_
        refine vv_sub (mi := mX11_relief) [(0, .inr (.inr (some this))), (1, .inl x1), (2, .inl x2), (3, .inl x3), (4, .inl x4), (5, .inl x5), (6, .inl (x6 + 1))] [2, 3, 4, 5, 6, 7, 0] rfl ?_
        exact hb55 _ _ _ _ _ _ _ _ h
  · replace h := h.2 c30
    refine vv_goto (mi := mX11_relief) (pc := 136) 173 dX11_relief_136 rfl ?_
    refine vv_iinc (mi := mX11_relief) (pc := 173) (x6 + 1) 6 [(6, .inl (x6 + 1)), (0, .inr (.inr (some this))), (1, .inl x1), (2, .inl x2), (3, .inl x3), (4, .inl x4), (5, .inl x5), (7, .inl x7)] dX11_relief_173 rfl rfl (Nat.le_of_ble_eq_true rfl) rfl ?_
    refine vv_goto (mi := mX11_relief) (pc := 176) 55 dX11_relief_176 rfl ?_
    refine vv_sub (mi := mX11_relief) [(0, .inr (.inr (some this))), (1, .inl x1), (2, .inl x2), (3, .inl x3), (4, .inl x4), (5, .inl x5), (6, .inl (x6 + 1))] [1, 2, 3, 4, 5, 6, 0] rfl ?_
    exact hb55 _ _ _ _ _ _ _ _ h
set_option maxHeartbeats 4000000 in
set_option maxRecDepth 100000 in
theorem bX11_relief_72 {X : Cx_} {kb55 : Nat → Int32 → Int32 → Int32 → Int32 → Int32 → Int32 → Mm → Prop} {kb72 : Nat → Int32 → Int32 → Int32 → Int32 → Int32 → Int32 → Int32 → Int32 → Mm → Prop} {post : Int32 → Mm → Prop} (hb55 : ∀ (this : Nat) (x1 : Int32) (x2 : Int32) (x3 : Int32) (x4 : Int32) (x5 : Int32) (x6 : Int32) (M : Mm), kb55 this x1 x2 x3 x4 x5 x6 M → VV X mX11_relief rX11_relief (pI_ post) 55 [(0, .inr (.inr (some this))), (1, .inl x1), (2, .inl x2), (3, .inl x3), (4, .inl x4), (5, .inl x5), (6, .inl x6)] [] M 0 0) (hb72 : ∀ (this : Nat) (x1 : Int32) (x2 : Int32) (x3 : Int32) (x4 : Int32) (x5 : Int32) (x6 : Int32) (x7 : Int32) (x8 : Int32) (M : Mm), kb72 this x1 x2 x3 x4 x5 x6 x7 x8 M → VV X mX11_relief rX11_relief (pI_ post) 72 [(0, .inr (.inr (some this))), (1, .inl x1), (2, .inl x2), (3, .inl x3), (4, .inl x4), (5, .inl x5), (6, .inl x6), (7, .inl x7), (8, .inl x8)] [] M 0 0) {this : Nat} {x1 : Int32} {x2 : Int32} {x3 : Int32} {x4 : Int32} {x5 : Int32} {x6 : Int32} {x7 : Int32} {x8 : Int32} {M : Mm} (h : BX11_relief_72 kb55 kb72 post this x1 x2 x3 x4 x5 x6 x7 x8 M) : VV X mX11_relief rX11_relief (pI_ post) 72 [(0, .inr (.inr (some this))), (1, .inl x1), (2, .inl x2), (3, .inl x3), (4, .inl x4), (5, .inl x5), (6, .inl x6), (7, .inl x7), (8, .inl x8)] [] M 0 0 := by
  unfold BX11_relief_72 at h
  refine vv_iload (mi := mX11_relief) (pc := 72) 8 dX11_relief_72 rfl ?_
  refine vv_aload_n (mi := mX11_relief) (pc := 74) 0 dX11_relief_74 rfl rfl ?_
  obtain ⟨ht16, h⟩ := h
  refine vv_getI (mi := mX11_relief) (pc := 75) 11 35 rfl ht16 fl_X11_285 (Nat.le_of_ble_eq_true rfl) dX11_relief_75 ?_
  refine vv_icmp_ge (mi := mX11_relief) (pc := 78) 114 dX11_relief_78 rfl (fun c17 => ?_) (fun c17 => ?_)
  · replace h := h.1 c17
    refine vv_iload (mi := mX11_relief) (pc := 114) 4 dX11_relief_114 rfl ?_
    refine vv_iconst (mi := mX11_relief) (pc := 116) (-1) dX11_relief_116 rfl ?_
    refine vv_icmp_eq (mi := mX11_relief) (pc := 117) 127 dX11_relief_117 rfl (fun c18 => ?_) (fun c18 => ?_)
    · replace h := h.1 c18
      refine vv_sub (mi := mX11_relief) [(0, .inr (.inr (some this))), (1, .inl x1), (2, .inl x2), (3, .inl x3), (4, .inl x4), (5, .inl x5), (6, .inl x6), (7, .inl x7)] [0, 1, 2, 3, 4, 5, 6, 7] rfl ?_
      exact bX11_relief_127 (X := X) hb55 h
    · replace h := h.2 c18
      refine vv_iload (mi := mX11_relief) (pc := 120) 7 dX11_relief_120 rfl ?_
      refine vv_iload (mi := mX11_relief) (pc := 122) 5 dX11_relief_122 rfl ?_
      refine vv_icmp_ge (mi := mX11_relief) (pc := 124) 173 dX11_relief_124 rfl (fun c19 => ?_) (fun c19 => ?_)
      · replace h := h.1 c19
        refine vv_iinc (mi := mX11_relief) (pc := 173) (x6 + 1) 6 [(6, .inl (x6 + 1)), (0, .inr (.inr (some this))), (1, .inl x1), (2, .inl x2), (3, .inl x3), (4, .inl x4), (5, .inl x5), (7, .inl x7), (8, .inl x8)] dX11_relief_173 rfl rfl (Nat.le_of_ble_eq_true rfl) rfl ?_
        refine vv_goto (mi := mX11_relief) (pc := 176) 55 dX11_relief_176 rfl ?_
        refine vv_sub (mi := mX11_relief) [(0, .inr (.inr (some this))), (1, .inl x1), (2, .inl x2), (3, .inl x3), (4, .inl x4), (5, .inl x5), (6, .inl (x6 + 1))] [1, 2, 3, 4, 5, 6, 0] rfl ?_
        exact hb55 _ _ _ _ _ _ _ _ h
      · replace h := h.2 c19
        refine vv_sub (mi := mX11_relief) [(0, .inr (.inr (some this))), (1, .inl x1), (2, .inl x2), (3, .inl x3), (4, .inl x4), (5, .inl x5), (6, .inl x6), (7, .inl x7)] [0, 1, 2, 3, 4, 5, 6, 7] rfl ?_
        exact bX11_relief_127 (X := X) hb55 h
  · replace h := h.2 c17
    refine vv_iload (mi := mX11_relief) (pc := 81) 7 dX11_relief_81 rfl ?_
    refine vv_iload (mi := mX11_relief) (pc := 83) 6 dX11_relief_83 rfl ?_
    refine vv_iload (mi := mX11_relief) (pc := 85) 8 dX11_relief_85 rfl ?_
    refine vv_ishr (mi := mX11_relief) (pc := 87) dX11_relief_87 ?_
    refine vv_iconst (mi := mX11_relief) (pc := 88) 1 dX11_relief_88 rfl ?_
    refine vv_iand (mi := mX11_relief) (pc := 89) dX11_relief_89 ?_
    refine vv_iconst (mi := mX11_relief) (pc := 90) 1 dX11_relief_90 rfl ?_
    refine vv_icmp_ne (mi := mX11_relief) (pc := 91) 104 dX11_relief_91 rfl (fun c20 => ?_) (fun c20 => ?_)
    · replace h := h.1 c20
      refine vv_iconst (mi := mX11_relief) (pc := 104) 0 dX11_relief_104 rfl ?_
      refine vv_iadd (mi := mX11_relief) (pc := 105) dX11_relief_105 ?_
      obtain ⟨v21, ev21⟩ : ∃ z : Int32, z = (x7 + 0) := ⟨_, rfl⟩
      refine vv_namI ev21 ?_
      replace h := h _ ev21
      refine vv_istore (mi := mX11_relief) (pc := 106) [(7, .inl v21), (0, .inr (.inr (some this))), (1, .inl x1), (2, .inl x2), (3, .inl x3), (4, .inl x4), (5, .inl x5), (6, .inl x6), (8, .inl x8)] dX11_relief_106 (Nat.le_of_ble_eq_true rfl) rfl ?_
      refine vv_iinc (mi := mX11_relief) (pc := 108) (x8 + 1) 8 [(8, .inl (x8 + 1)), (7, .inl v21), (0, .inr (.inr (some this))), (1, .inl x1), (2, .inl x2), (3, .inl x3), (4, .inl x4), (5, .inl x5), (6, .inl x6)] dX11_relief_108 rfl rfl (Nat.le_of_ble_eq_true rfl) rfl ?_
      refine vv_goto (mi := mX11_relief) (pc := 111) 72 dX11_relief_111 rfl ?_
      refine vv_sub (mi := mX11_relief) [(0, .inr (.inr (some this))), (1, .inl x1), (2, .inl x2), (3, .inl x3), (4, .inl x4), (5, .inl x5), (6, .inl x6), (7, .inl v21), (8, .inl (x8 + 1))] [2, 3, 4, 5, 6, 7, 8, 1, 0] rfl ?_
      exact hb72 _ _ _ _ _ _ _ _ _ _ h
    · replace h := h.2 c20
      refine vv_aload_n (mi := mX11_relief) (pc := 94) 0 dX11_relief_94 rfl rfl ?_
      refine vv_getR (mi := mX11_relief) (pc := 95) 11 36 rfl ht16 fl_X11_102 (Nat.le_of_ble_eq_true rfl) dX11_relief_95 ?_
      refine vv_iload (mi := mX11_relief) (pc := 98) 8 dX11_relief_98 rfl ?_
      obtain ⟨aq22, hs23, h⟩ := h
      obtain ⟨ht24, h⟩ := h
      obtain ⟨hi25, h⟩ := h
      refine vv_iald (mi := mX11_relief) (pc := 100) hs23 ht24 hi25 dX11_relief_100 ?_
      refine vv_goto (mi := mX11_relief) (pc := 101) 105 dX11_relief_101 rfl ?_
      refine vv_iadd (mi := mX11_relief) (pc := 105) dX11_relief_105 ?_
      obtain ⟨v26, ev26⟩ : ∃ z : Int32, z = (x7 + (ddI M aq22 (Int32.toNatClampNeg x8))) := ⟨_, rfl⟩
      refine vv_namI ev26 ?_
      replace h := h _ ev26
      refine vv_istore (mi := mX11_relief) (pc := 106) [(7, .inl v26), (0, .inr (.inr (some this))), (1, .inl x1), (2, .inl x2), (3, .inl x3), (4, .inl x4), (5, .inl x5), (6, .inl x6), (8, .inl x8)] dX11_relief_106 (Nat.le_of_ble_eq_true rfl) rfl ?_
      refine vv_iinc (mi := mX11_relief) (pc := 108) (x8 + 1) 8 [(8, .inl (x8 + 1)), (7, .inl v26), (0, .inr (.inr (some this))), (1, .inl x1), (2, .inl x2), (3, .inl x3), (4, .inl x4), (5, .inl x5), (6, .inl x6)] dX11_relief_108 rfl rfl (Nat.le_of_ble_eq_true rfl) rfl ?_
      refine vv_goto (mi := mX11_relief) (pc := 111) 72 dX11_relief_111 rfl ?_
      refine vv_sub (mi := mX11_relief) [(0, .inr (.inr (some this))), (1, .inl x1), (2, .inl x2), (3, .inl x3), (4, .inl x4), (5, .inl x5), (6, .inl x6), (7, .inl v26), (8, .inl (x8 + 1))] [2, 3, 4, 5, 6, 7, 8, 1, 0] rfl ?_
      exact hb72 _ _ _ _ _ _ _ _ _ _ h
theorem loX11_relief_72 {X : Cx_} {kb55 : Nat → Int32 → Int32 → Int32 → Int32 → Int32 → Int32 → Mm → Prop} {post : Int32 → Mm → Prop} (hb55 : ∀ (this : Nat) (x1 : Int32) (x2 : Int32) (x3 : Int32) (x4 : Int32) (x5 : Int32) (x6 : Int32) (M : Mm), kb55 this x1 x2 x3 x4 x5 x6 M → VV X mX11_relief rX11_relief (pI_ post) 55 [(0, .inr (.inr (some this))), (1, .inl x1), (2, .inl x2), (3, .inl x3), (4, .inl x4), (5, .inl x5), (6, .inl x6)] [] M 0 0) : ∀ (fu : Nat) {this : Nat} {x1 : Int32} {x2 : Int32} {x3 : Int32} {x4 : Int32} {x5 : Int32} {x6 : Int32} {x7 : Int32} {x8 : Int32} {M : Mm}, DX11_relief_72 kb55 post fu this x1 x2 x3 x4 x5 x6 x7 x8 M → VV X mX11_relief rX11_relief (pI_ post) 72 [(0, .inr (.inr (some this))), (1, .inl x1), (2, .inl x2), (3, .inl x3), (4, .inl x4), (5, .inl x5), (6, .inl x6), (7, .inl x7), (8, .inl x8)] [] M 0 0
  | 0, _, _, _, _, _, _, _, _, _, _, h => False.elim h
  | fu + 1, _, _, _, _, _, _, _, _, _, _, h => bX11_relief_72 hb55 (fun this x1 x2 x3 x4 x5 x6 x7 x8 M h => loX11_relief_72 hb55 fu h) h
set_option maxHeartbeats 4000000 in
set_option maxRecDepth 100000 in
theorem bX11_relief_55 {X : Cx_} {kb55 : Nat → Int32 → Int32 → Int32 → Int32 → Int32 → Int32 → Mm → Prop} {post : Int32 → Mm → Prop} (hb55 : ∀ (this : Nat) (x1 : Int32) (x2 : Int32) (x3 : Int32) (x4 : Int32) (x5 : Int32) (x6 : Int32) (M : Mm), kb55 this x1 x2 x3 x4 x5 x6 M → VV X mX11_relief rX11_relief (pI_ post) 55 [(0, .inr (.inr (some this))), (1, .inl x1), (2, .inl x2), (3, .inl x3), (4, .inl x4), (5, .inl x5), (6, .inl x6)] [] M 0 0) {this : Nat} {x1 : Int32} {x2 : Int32} {x3 : Int32} {x4 : Int32} {x5 : Int32} {x6 : Int32} {M : Mm} (h : BX11_relief_55 kb55 post this x1 x2 x3 x4 x5 x6 M) : VV X mX11_relief rX11_relief (pI_ post) 55 [(0, .inr (.inr (some this))), (1, .inl x1), (2, .inl x2), (3, .inl x3), (4, .inl x4), (5, .inl x5), (6, .inl x6)] [] M 0 0 := by
  unfold BX11_relief_55 at h
  refine vv_iload (mi := mX11_relief) (pc := 55) 6 dX11_relief_55 rfl ?_
  refine vv_iconst (mi := mX11_relief) (pc := 57) 1 dX11_relief_57 rfl ?_
  refine vv_aload_n (mi := mX11_relief) (pc := 58) 0 dX11_relief_58 rfl rfl ?_
  obtain ⟨ht14, h⟩ := h
  refine vv_getI (mi := mX11_relief) (pc := 59) 11 35 rfl ht14 fl_X11_285 (Nat.le_of_ble_eq_true rfl) dX11_relief_59 ?_
  refine vv_ishl (mi := mX11_relief) (pc := 62) dX11_relief_62 ?_
  refine vv_icmp_ge (mi := mX11_relief) (pc := 63) 179 dX11_relief_63 rfl (fun c15 => ?_) (fun c15 => ?_)
  · replace h := h.1 c15
    refine vv_iload (mi := mX11_relief) (pc := 179) 4 dX11_relief_179 rfl ?_
    exact vv_iret (mi := mX11_relief) (pc := 181) dX11_relief_181 rfl (Nat.le_of_ble_eq_true rfl) (Nat.le_of_ble_eq_true rfl) h
  · replace h := h.2 c15
    refine vv_iconst (mi := mX11_relief) (pc := 66) 0 dX11_relief_66 rfl ?_
    refine vv_istore (mi := mX11_relief) (pc := 67) [(7, .inl 0), (0, .inr (.inr (some this))), (1, .inl x1), (2, .inl x2), (3, .inl x3), (4, .inl x4), (5, .inl x5), (6, .inl x6)] dX11_relief_67 (Nat.le_of_ble_eq_true rfl) rfl ?_
    refine vv_iconst (mi := mX11_relief) (pc := 69) 0 dX11_relief_69 rfl ?_
    refine vv_istore (mi := mX11_relief) (pc := 70) [(8, .inl 0), (7, .inl 0), (0, .inr (.inr (some this))), (1, .inl x1), (2, .inl x2), (3, .inl x3), (4, .inl x4), (5, .inl x5), (6, .inl x6)] dX11_relief_70 (Nat.le_of_ble_eq_true rfl) rfl ?_
    refine vv_sub (mi := mX11_relief) [(0, .inr (.inr (some this))), (1, .inl x1), (2, .inl x2), (3, .inl x3), (4, .inl x4), (5, .inl x5), (6, .inl x6), (7, .inl 0), (8, .inl 0)] [2, 3, 4, 5, 6, 7, 8, 1, 0] rfl ?_
    obtain ⟨fu, h⟩ := h
    exact loX11_relief_72 (X := X) hb55 fu h
theorem loX11_relief_55 {X : Cx_}  {post : Int32 → Mm → Prop}  : ∀ (fu : Nat) {this : Nat} {x1 : Int32} {x2 : Int32} {x3 : Int32} {x4 : Int32} {x5 : Int32} {x6 : Int32} {M : Mm}, DX11_relief_55  post fu this x1 x2 x3 x4 x5 x6 M → VV X mX11_relief rX11_relief (pI_ post) 55 [(0, .inr (.inr (some this))), (1, .inl x1), (2, .inl x2), (3, .inl x3), (4, .inl x4), (5, .inl x5), (6, .inl x6)] [] M 0 0
  | 0, _, _, _, _, _, _, _, _, h => False.elim h
  | fu + 1, _, _, _, _, _, _, _, _, h => bX11_relief_55 (fun this x1 x2 x3 x4 x5 x6 M h => loX11_relief_55  fu h) h
set_option maxHeartbeats 4000000 in
set_option maxRecDepth 100000 in
theorem ctX11_relief {X : Cx_} {this : Nat} {a1 : Int32} {a2 : Int32} {M : Mm} {post : Int32 → Mm → Prop} (h : PX11_relief this a1 a2 M post) : CT X mX11_relief rX11_relief [.inr (.inr (some this)), .inl a1, .inl a2] M (pI_ post) := by
  unfold PX11_relief at h
  refine CT.of (by decide +kernel) (Nat.le_of_ble_eq_true rfl) ?_
  show VV X mX11_relief rX11_relief (pI_ post) 0 [(0, .inr (.inr (some this))), (1, .inl a1), (2, .inl a2)] [] M 0 0
  refine vv_iload_n (mi := mX11_relief) (pc := 0) 1 dX11_relief_0 rfl rfl ?_
  refine vv_i2l (mi := mX11_relief) (pc := 1) dX11_relief_1 ?_
  refine vv_lconst (mi := mX11_relief) (pc := 2) 0 dX11_relief_2 rfl ?_
  refine vv_ldc2 (mi := mX11_relief) (pc := 3) 15 dX11_relief_3 kl_X11_137 ?_
  refine vv_callS (mi := mX11_relief) (pc := 6) (rest := []) (As := [.inr (.inl (Int32.toInt64 a1)), .inr (.inl 0), .inr (.inl 15)]) (ctX11_in (X := X) h) dX11_relief_6 mb_X11_in rfl ml_X11_110 sc_X11_in ⟨(Nat.le_of_ble_eq_true rfl), (Nat.le_of_ble_eq_true rfl)⟩ ⟨(Nat.le_of_ble_eq_true rfl), (Nat.le_of_ble_eq_true rfl)⟩ (Nat.le_of_ble_eq_true rfl) rfl (kI_ (F := fun st M' => VV X mX11_relief rX11_relief (pI_ post) 9 [(0, .inr (.inr (some this))), (1, .inl a1), (2, .inl a2)] st M' 0 0) (fun r1 M2 h => ?_))
  refine vv_if_eq (mi := mX11_relief) (pc := 9) 24 dX11_relief_9 rfl (fun c3 => ?_) (fun c3 => ?_)
  · replace h := h.1 c3
    refine vv_bipush (mi := mX11_relief) (pc := 24) (-2) dX11_relief_24 rfl ?_
    exact vv_iret (mi := mX11_relief) (pc := 26) dX11_relief_26 rfl (Nat.le_of_ble_eq_true rfl) (Nat.le_of_ble_eq_true rfl) h
  · replace h := h.2 c3
    refine vv_iload_n (mi := mX11_relief) (pc := 12) 2 dX11_relief_12 rfl rfl ?_
    refine vv_i2l (mi := mX11_relief) (pc := 13) dX11_relief_13 ?_
    refine vv_lconst (mi := mX11_relief) (pc := 14) 1 dX11_relief_14 rfl ?_
    refine vv_ldc2 (mi := mX11_relief) (pc := 15) 2000 dX11_relief_15 kl_X11_294 ?_
    refine vv_callS (mi := mX11_relief) (pc := 18) (rest := []) (As := [.inr (.inl (Int32.toInt64 a2)), .inr (.inl 1), .inr (.inl 2000)]) (ctX11_in (X := X) h) dX11_relief_18 mb_X11_in rfl ml_X11_110 sc_X11_in ⟨(Nat.le_of_ble_eq_true rfl), (Nat.le_of_ble_eq_true rfl)⟩ ⟨(Nat.le_of_ble_eq_true rfl), (Nat.le_of_ble_eq_true rfl)⟩ (Nat.le_of_ble_eq_true rfl) rfl (kI_ (F := fun st M' => VV X mX11_relief rX11_relief (pI_ post) 21 [(0, .inr (.inr (some this))), (1, .inl a1), (2, .inl a2)] st M' 0 0) (fun r4 M5 h => ?_))
    refine vv_if_ne (mi := mX11_relief) (pc := 21) 27 dX11_relief_21 rfl (fun c6 => ?_) (fun c6 => ?_)
    · replace h := h.1 c6
      refine vv_aload_n (mi := mX11_relief) (pc := 27) 0 dX11_relief_27 rfl rfl ?_
      refine vv_iload_n (mi := mX11_relief) (pc := 28) 1 dX11_relief_28 rfl rfl ?_
      obtain ⟨ht7, h⟩ := h
      refine vv_callV (mi := mX11_relief) (pc := 29) (rest := []) (As := [.inl a1]) (ctX11_makeBase (X := X) h) dX11_relief_29 rfl ht7 (Nat.le_of_ble_eq_true rfl) rfl mb_X11_makeBase rfl ml_X11_288 im_X11_makeBase se_X11_makeBase ⟨(Nat.le_of_ble_eq_true rfl), (Nat.le_of_ble_eq_true rfl)⟩ ⟨(Nat.le_of_ble_eq_true rfl), (Nat.le_of_ble_eq_true rfl)⟩ (Nat.le_of_ble_eq_true rfl) rfl (kV_ (F := fun st M' => VV X mX11_relief rX11_relief (pI_ post) 32 [(0, .inr (.inr (some this))), (1, .inl a1), (2, .inl a2)] st M' 0 0) (fun M9 h => ?_))
      refine vv_aload_n (mi := mX11_relief) (pc := 32) 0 dX11_relief_32 rfl rfl ?_
      refine vv_iload_n (mi := mX11_relief) (pc := 33) 1 dX11_relief_33 rfl rfl ?_
      refine vv_iconst (mi := mX11_relief) (pc := 34) 0 dX11_relief_34 rfl ?_
      obtain ⟨ht10, h⟩ := h
      refine vv_callV (mi := mX11_relief) (pc := 35) (rest := []) (As := [.inl a1, .inl 0]) (ctX11_shortageWith (X := X) h) dX11_relief_35 rfl ht10 (Nat.le_of_ble_eq_true rfl) rfl mb_X11_shortageWith rfl ml_X11_291 im_X11_shortageWith se_X11_shortageWith ⟨(Nat.le_of_ble_eq_true rfl), (Nat.le_of_ble_eq_true rfl)⟩ ⟨(Nat.le_of_ble_eq_true rfl), (Nat.le_of_ble_eq_true rfl)⟩ (Nat.le_of_ble_eq_true rfl) rfl (kI_ (F := fun st M' => VV X mX11_relief rX11_relief (pI_ post) 38 [(0, .inr (.inr (some this))), (1, .inl a1), (2, .inl a2)] st M' 0 0) (fun r11 M12 h => ?_))
      refine vv_istore_n (mi := mX11_relief) (pc := 38) [(3, .inl r11), (0, .inr (.inr (some this))), (1, .inl a1), (2, .inl a2)] dX11_relief_38 rfl (Nat.le_of_ble_eq_true rfl) rfl ?_
      refine vv_iload_n (mi := mX11_relief) (pc := 39) 0 dX11_relief_39 rfl rfl ?_
      refine vv_iconst (mi := mX11_relief) (pc := 40) (-1) dX11_relief_40 rfl ?_
      refine vv_icmp_ne (mi := mX11_relief) (pc := 41) 46 dX11_relief_41 rfl (fun c13 => ?_) (fun c13 => ?_)
      · replace h := h.1 c13
        refine vv_iconst (mi := mX11_relief) (pc := 46) (-1) dX11_relief_46 rfl ?_
        refine vv_istore (mi := mX11_relief) (pc := 47) [(4, .inl (-1)), (3, .inl r11), (0, .inr (.inr (some this))), (1, .inl a1), (2, .inl a2)] dX11_relief_47 (Nat.le_of_ble_eq_true rfl) rfl ?_
        refine vv_iconst (mi := mX11_relief) (pc := 49) 0 dX11_relief_49 rfl ?_
        refine vv_istore (mi := mX11_relief) (pc := 50) [(5, .inl 0), (4, .inl (-1)), (3, .inl r11), (0, .inr (.inr (some this))), (1, .inl a1), (2, .inl a2)] dX11_relief_50 (Nat.le_of_ble_eq_true rfl) rfl ?_
        refine vv_iconst (mi := mX11_relief) (pc := 52) 1 dX11_relief_52 rfl ?_
        refine vv_istore (mi := mX11_relief) (pc := 53) [(6, .inl 1), (5, .inl 0), (4, .inl (-1)), (3, .inl r11), (0, .inr (.inr (some this))), (1, .inl a1), (2, .inl a2)] dX11_relief_53 (Nat.le_of_ble_eq_true rfl) rfl ?_
        refine vv_sub (mi := mX11_relief) [(0, .inr (.inr (some this))), (1, .inl a1), (2, .inl a2), (3, .inl r11), (4, .inl (-1)), (5, .inl 0), (6, .inl 1)] [4, 5, 6, 3, 2, 1, 0] rfl ?_
        obtain ⟨fu, h⟩ := h
        exact loX11_relief_55 (X := X)  fu h
      · replace h := h.2 c13
        refine vv_iconst (mi := mX11_relief) (pc := 44) (-1) dX11_relief_44 rfl ?_
        exact vv_iret (mi := mX11_relief) (pc := 45) dX11_relief_45 rfl (Nat.le_of_ble_eq_true rfl) (Nat.le_of_ble_eq_true rfl) h
    · replace h := h.2 c6
      refine vv_bipush (mi := mX11_relief) (pc := 24) (-2) dX11_relief_24 rfl ?_
      exact vv_iret (mi := mX11_relief) (pc := 26) dX11_relief_26 rfl (Nat.le_of_ble_eq_true rfl) (Nat.le_of_ble_eq_true rfl) h
set_option maxHeartbeats 4000000 in
set_option maxRecDepth 100000 in
theorem bX11_take_109 {X : Cx_} {kb109 : Nat → Int32 → Int32 → Mm → Prop} {post : Int32 → Mm → Prop} (hb109 : ∀ (this : Nat) (x3 : Int32) (x4 : Int32) (M : Mm), kb109 this x3 x4 M → VV X mX11_take rX11_take (pI_ post) 109 [(0, .inr (.inr (some this))), (3, .inl x3), (4, .inl x4)] [] M 0 0) {this : Nat} {x3 : Int32} {x4 : Int32} {M : Mm} (h : BX11_take_109 kb109 post this x3 x4 M) : VV X mX11_take rX11_take (pI_ post) 109 [(0, .inr (.inr (some this))), (3, .inl x3), (4, .inl x4)] [] M 0 0 := by
  unfold BX11_take_109 at h
  refine vv_iload (mi := mX11_take) (pc := 109) 2 dX11_take_109 rfl ?_
  refine vv_aload_n (mi := mX11_take) (pc := 111) 0 dX11_take_111 rfl rfl ?_
  obtain ⟨ht35, h⟩ := h
  refine vv_getI (mi := mX11_take) (pc := 112) 11 35 rfl ht35 fl_X11_285 (Nat.le_of_ble_eq_true rfl) dX11_take_112 ?_
  refine vv_icmp_ge (mi := mX11_take) (pc := 115) 204 dX11_take_115 rfl (fun c36 => ?_) (fun c36 => ?_)
  · replace h := h.1 c36
    refine vv_iload_n (mi := mX11_take) (pc := 204) 1 dX11_take_204 rfl rfl ?_
    exact vv_iret (mi := mX11_take) (pc := 205) dX11_take_205 rfl (Nat.le_of_ble_eq_true rfl) (Nat.le_of_ble_eq_true rfl) h
  · replace h := h.2 c36
    refine vv_bipush (mi := mX11_take) (pc := 118) 121 dX11_take_118 rfl ?_
    refine vv_iload (mi := mX11_take) (pc := 120) 2 dX11_take_120 rfl ?_
    refine vv_iadd (mi := mX11_take) (pc := 122) dX11_take_122 ?_
    refine vv_iconst (mi := mX11_take) (pc := 123) 1 dX11_take_123 rfl ?_
    refine vv_iadd (mi := mX11_take) (pc := 124) dX11_take_124 ?_
    obtain ⟨v37, ev37⟩ : ∃ z : Int32, z = ((121 + x4) + 1) := ⟨_, rfl⟩
    refine vv_namI ev37 ?_
    replace h := h _ ev37
    refine vv_istore (mi := mX11_take) (pc := 125) [(5, .inl v37), (0, .inr (.inr (some this))), (3, .inl x3), (4, .inl x4)] dX11_take_125 (Nat.le_of_ble_eq_true rfl) rfl ?_
    refine vv_aload_n (mi := mX11_take) (pc := 127) 1 dX11_take_127 rfl rfl ?_
    refine vv_bipush (mi := mX11_take) (pc := 128) 121 dX11_take_128 rfl ?_
    refine vv_iload (mi := mX11_take) (pc := 130) 3 dX11_take_130 rfl ?_
    refine vv_iadd (mi := mX11_take) (pc := 132) dX11_take_132 ?_
    refine vv_iconst (mi := mX11_take) (pc := 133) 0 dX11_take_133 rfl ?_
    refine vv_aload_n (mi := mX11_take) (pc := 134) 1 dX11_take_134 rfl rfl ?_
    refine vv_getR (mi := mX11_take) (pc := 135) 11 3 rfl ht35 fl_X11_13 (Nat.le_of_ble_eq_true rfl) dX11_take_135 ?_
    refine vv_iload (mi := mX11_take) (pc := 138) 0 dX11_take_138 rfl ?_
    obtain ⟨aq38, hs39, h⟩ := h
    obtain ⟨ht40, h⟩ := h
    obtain ⟨hi41, h⟩ := h
    refine vv_iald (mi := mX11_take) (pc := 140) hs39 ht40 hi41 dX11_take_140 ?_
    refine vv_aload_n (mi := mX11_take) (pc := 141) 1 dX11_take_141 rfl rfl ?_
    refine vv_getR (mi := mX11_take) (pc := 142) 11 4 rfl ht35 fl_X11_16 (Nat.le_of_ble_eq_true rfl) dX11_take_142 ?_
    refine vv_iload (mi := mX11_take) (pc := 145) 0 dX11_take_145 rfl ?_
    obtain ⟨aq42, hs43, h⟩ := h
    obtain ⟨ht44, h⟩ := h
    obtain ⟨hi45, h⟩ := h
    refine vv_iald (mi := mX11_take) (pc := 147) hs43 ht44 hi45 dX11_take_147 ?_
    refine vv_aload_n (mi := mX11_take) (pc := 148) 1 dX11_take_148 rfl rfl ?_
    refine vv_getR (mi := mX11_take) (pc := 149) 11 5 rfl ht35 fl_X11_19 (Nat.le_of_ble_eq_true rfl) dX11_take_149 ?_
    refine vv_iload (mi := mX11_take) (pc := 152) 0 dX11_take_152 rfl ?_
    obtain ⟨aq46, hs47, h⟩ := h
    obtain ⟨ht48, h⟩ := h
    obtain ⟨hi49, h⟩ := h
    refine vv_iald (mi := mX11_take) (pc := 154) hs47 ht48 hi49 dX11_take_154 ?_
    refine vv_aload_n (mi := mX11_take) (pc := 155) 1 dX11_take_155 rfl rfl ?_
    refine vv_getR (mi := mX11_take) (pc := 156) 11 6 rfl ht35 fl_X11_22 (Nat.le_of_ble_eq_true rfl) dX11_take_156 ?_
    refine vv_iload (mi := mX11_take) (pc := 159) 0 dX11_take_159 rfl ?_
    obtain ⟨aq50, hs51, h⟩ := h
    obtain ⟨ht52, h⟩ := h
    obtain ⟨hi53, h⟩ := h
    refine vv_iald (mi := mX11_take) (pc := 161) hs51 ht52 hi53 dX11_take_161 ?_
    refine vv_aload_n (mi := mX11_take) (pc := 162) 1 dX11_take_162 rfl rfl ?_
    refine vv_getR (mi := mX11_take) (pc := 163) 11 6 rfl ht35 fl_X11_22 (Nat.le_of_ble_eq_true rfl) dX11_take_163 ?_
    refine vv_iload (mi := mX11_take) (pc := 166) 0 dX11_take_166 rfl ?_
    obtain ⟨hi54, h⟩ := h
    refine vv_iald (mi := mX11_take) (pc := 168) hs51 ht52 hi54 dX11_take_168 ?_
    refine vv_aload_n (mi := mX11_take) (pc := 169) 1 dX11_take_169 rfl rfl ?_
    refine vv_getR (mi := mX11_take) (pc := 170) 11 8 rfl ht35 fl_X11_28 (Nat.le_of_ble_eq_true rfl) dX11_take_170 ?_
    refine vv_iload (mi := mX11_take) (pc := 173) 0 dX11_take_173 rfl ?_
    obtain ⟨aq55, hs56, h⟩ := h
    obtain ⟨ht57, h⟩ := h
    obtain ⟨hi58, h⟩ := h
    refine vv_iald (mi := mX11_take) (pc := 175) hs56 ht57 hi58 dX11_take_175 ?_
    refine vv_iconst (mi := mX11_take) (pc := 176) (-1) dX11_take_176 rfl ?_
    refine vv_callV (mi := mX11_take) (pc := 177) (rest := []) (As := [.inl (121 + x4), .inl 0, .inl (ddI M aq38 (Int32.toNatClampNeg v37)), .inl (ddI M aq42 (Int32.toNatClampNeg v37)), .inl (ddI M aq46 (Int32.toNatClampNeg v37)), .inl (ddI M aq50 (Int32.toNatClampNeg v37)), .inl (ddI M aq50 (Int32.toNatClampNeg v37)), .inl (ddI M aq55 (Int32.toNatClampNeg v37)), .inl (-1)]) (ctX11_put (X := X) h) dX11_take_177 rfl ht35 (Nat.le_of_ble_eq_true rfl) rfl mb_X11_put rfl ml_X11_133 im_X11_put se_X11_put ⟨(Nat.le_of_ble_eq_true rfl), (Nat.le_of_ble_eq_true rfl)⟩ ⟨(Nat.le_of_ble_eq_true rfl), (Nat.le_of_ble_eq_true rfl)⟩ (Nat.le_of_ble_eq_true rfl) rfl (kI_ (F := fun st M' => VV X mX11_take rX11_take (pI_ post) 180 [(5, .inl v37), (0, .inr (.inr (some this))), (3, .inl x3), (4, .inl x4)] st M' 0 0) (fun r59 M60 h => ?_))
    refine vv_istore (mi := mX11_take) (pc := 180) [(6, .inl r59), (5, .inl v37), (0, .inr (.inr (some this))), (3, .inl x3), (4, .inl x4)] dX11_take_180 (Nat.le_of_ble_eq_true rfl) rfl ?_
    refine vv_aload_n (mi := mX11_take) (pc := 182) 2 dX11_take_182 rfl rfl ?_
    obtain ⟨ht61, h⟩ := h
    refine vv_getR (mi := mX11_take) (pc := 183) 11 36 rfl ht61 fl_X11_102 (Nat.le_of_ble_eq_true rfl) dX11_take_183 ?_
    refine vv_iload (mi := mX11_take) (pc := 186) 4 dX11_take_186 rfl ?_
    refine vv_aload_n (mi := mX11_take) (pc := 188) 2 dX11_take_188 rfl rfl ?_
    refine vv_getR (mi := mX11_take) (pc := 189) 11 36 rfl ht61 fl_X11_102 (Nat.le_of_ble_eq_true rfl) dX11_take_189 ?_
    refine vv_iload (mi := mX11_take) (pc := 192) 4 dX11_take_192 rfl ?_
    refine vv_iconst (mi := mX11_take) (pc := 194) 1 dX11_take_194 rfl ?_
    refine vv_iadd (mi := mX11_take) (pc := 195) dX11_take_195 ?_
    obtain ⟨aq62, hs63, h⟩ := h
    obtain ⟨ht64, h⟩ := h
    obtain ⟨hi65, h⟩ := h
    refine vv_iald (mi := mX11_take) (pc := 196) hs63 ht64 hi65 dX11_take_196 ?_
    obtain ⟨hi66, h⟩ := h
    obtain ⟨M67, eM67⟩ : ∃ z : Mm, z = suI M60 aq62 (Int32.toNatClampNeg x4) (ddI M60 aq62 (Int32.toNatClampNeg (x4 + 1))) := ⟨_, rfl⟩
    replace h := h _ eM67
    refine vv_iast (mi := mX11_take) (pc := 197) hs63 ht64 hi66 dX11_take_197 eM67 ?_
    refine vv_iinc (mi := mX11_take) (pc := 198) (x4 + 1) 4 [(4, .inl (x4 + 1)), (6, .inl r59), (5, .inl v37), (0, .inr (.inr (some this))), (3, .inl x3)] dX11_take_198 rfl rfl (Nat.le_of_ble_eq_true rfl) rfl ?_
    refine vv_goto (mi := mX11_take) (pc := 201) 109 dX11_take_201 rfl ?_
    refine vv_sub (mi := mX11_take) [(0, .inr (.inr (some this))), (3, .inl x3), (4, .inl (x4 + 1))] [3, 4, 0] rfl ?_
    exact hb109 _ _ _ _ h
theorem loX11_take_109 {X : Cx_}  {post : Int32 → Mm → Prop}  : ∀ (fu : Nat) {this : Nat} {x3 : Int32} {x4 : Int32} {M : Mm}, DX11_take_109  post fu this x3 x4 M → VV X mX11_take rX11_take (pI_ post) 109 [(0, .inr (.inr (some this))), (3, .inl x3), (4, .inl x4)] [] M 0 0
  | 0, _, _, _, _, h => False.elim h
  | fu + 1, _, _, _, _, h => bX11_take_109 (fun this x3 x4 M h => loX11_take_109  fu h) h
set_option maxHeartbeats 4000000 in
set_option maxRecDepth 100000 in
theorem ctX11_take {X : Cx_} {this : Nat} {a1 : Int32} {M : Mm} {post : Int32 → Mm → Prop} (h : PX11_take this a1 M post) : CT X mX11_take rX11_take [.inr (.inr (some this)), .inl a1] M (pI_ post) := by
  unfold PX11_take at h
  refine CT.of (by decide +kernel) (Nat.le_of_ble_eq_true rfl) ?_
  show VV X mX11_take rX11_take (pI_ post) 0 [(0, .inr (.inr (some this))), (1, .inl a1)] [] M 0 0
  refine vv_iload_n (mi := mX11_take) (pc := 0) 1 dX11_take_0 rfl rfl ?_
  refine vv_i2l (mi := mX11_take) (pc := 1) dX11_take_1 ?_
  refine vv_lconst (mi := mX11_take) (pc := 2) 0 dX11_take_2 rfl ?_
  refine vv_aload_n (mi := mX11_take) (pc := 3) 0 dX11_take_3 rfl rfl ?_
  obtain ⟨ht1, h⟩ := h
  refine vv_getI (mi := mX11_take) (pc := 4) 11 35 rfl ht1 fl_X11_285 (Nat.le_of_ble_eq_true rfl) dX11_take_4 ?_
  refine vv_iconst (mi := mX11_take) (pc := 7) 1 dX11_take_7 rfl ?_
  refine vv_isub (mi := mX11_take) (pc := 8) dX11_take_8 ?_
  refine vv_i2l (mi := mX11_take) (pc := 9) dX11_take_9 ?_
  refine vv_callS (mi := mX11_take) (pc := 10) (rest := []) (As := [.inr (.inl (Int32.toInt64 a1)), .inr (.inl 0), .inr (.inl (Int32.toInt64 ((ddI M this 35) - 1)))]) (ctX11_in (X := X) h) dX11_take_10 mb_X11_in rfl ml_X11_110 sc_X11_in ⟨(Nat.le_of_ble_eq_true rfl), (Nat.le_of_ble_eq_true rfl)⟩ ⟨(Nat.le_of_ble_eq_true rfl), (Nat.le_of_ble_eq_true rfl)⟩ (Nat.le_of_ble_eq_true rfl) rfl (kI_ (F := fun st M' => VV X mX11_take rX11_take (pI_ post) 13 [(0, .inr (.inr (some this))), (1, .inl a1)] st M' 0 0) (fun r2 M3 h => ?_))
  refine vv_if_eq (mi := mX11_take) (pc := 13) 32 dX11_take_13 rfl (fun c4 => ?_) (fun c4 => ?_)
  · replace h := h.1 c4
    refine vv_bipush (mi := mX11_take) (pc := 32) (-2) dX11_take_32 rfl ?_
    exact vv_iret (mi := mX11_take) (pc := 34) dX11_take_34 rfl (Nat.le_of_ble_eq_true rfl) (Nat.le_of_ble_eq_true rfl) h
  · replace h := h.2 c4
    refine vv_aload_n (mi := mX11_take) (pc := 16) 0 dX11_take_16 rfl rfl ?_
    obtain ⟨ht5, h⟩ := h
    refine vv_getR (mi := mX11_take) (pc := 17) 11 8 rfl ht5 fl_X11_28 (Nat.le_of_ble_eq_true rfl) dX11_take_17 ?_
    refine vv_bipush (mi := mX11_take) (pc := 20) 121 dX11_take_20 rfl ?_
    refine vv_iload_n (mi := mX11_take) (pc := 22) 1 dX11_take_22 rfl rfl ?_
    refine vv_iadd (mi := mX11_take) (pc := 23) dX11_take_23 ?_
    obtain ⟨aq6, hs7, h⟩ := h
    obtain ⟨ht8, h⟩ := h
    obtain ⟨hi9, h⟩ := h
    refine vv_iald (mi := mX11_take) (pc := 24) hs7 ht8 hi9 dX11_take_24 ?_
    refine vv_aload_n (mi := mX11_take) (pc := 25) 0 dX11_take_25 rfl rfl ?_
    refine vv_getI (mi := mX11_take) (pc := 26) 11 0 rfl ht5 fl_X11_114 (Nat.le_of_ble_eq_true rfl) dX11_take_26 ?_
    refine vv_icmp_ge (mi := mX11_take) (pc := 29) 35 dX11_take_29 rfl (fun c10 => ?_) (fun c10 => ?_)
    · replace h := h.1 c10
      refine vv_aload_n (mi := mX11_take) (pc := 35) 0 dX11_take_35 rfl rfl ?_
      refine vv_getI (mi := mX11_take) (pc := 36) 11 1 rfl ht5 fl_X11_130 (Nat.le_of_ble_eq_true rfl) dX11_take_36 ?_
      refine vv_bipush (mi := mX11_take) (pc := 39) 120 dX11_take_39 rfl ?_
      refine vv_icmp_ne (mi := mX11_take) (pc := 41) 47 dX11_take_41 rfl (fun c11 => ?_) (fun c11 => ?_)
      · replace h := h.1 c11
        refine vv_bipush (mi := mX11_take) (pc := 47) 121 dX11_take_47 rfl ?_
        refine vv_iload_n (mi := mX11_take) (pc := 49) 1 dX11_take_49 rfl rfl ?_
        refine vv_iadd (mi := mX11_take) (pc := 50) dX11_take_50 ?_
        obtain ⟨v12, ev12⟩ : ∃ z : Int32, z = (121 + a1) := ⟨_, rfl⟩
        refine vv_namI ev12 ?_
        replace h := h _ ev12
        refine vv_istore_n (mi := mX11_take) (pc := 51) [(2, .inl v12), (0, .inr (.inr (some this))), (1, .inl a1)] dX11_take_51 rfl (Nat.le_of_ble_eq_true rfl) rfl ?_
        refine vv_aload_n (mi := mX11_take) (pc := 52) 1 dX11_take_52 rfl rfl ?_
        refine vv_iconst (mi := mX11_take) (pc := 53) 0 dX11_take_53 rfl ?_
        refine vv_aload_n (mi := mX11_take) (pc := 54) 1 dX11_take_54 rfl rfl ?_
        refine vv_getR (mi := mX11_take) (pc := 55) 11 3 rfl ht5 fl_X11_13 (Nat.le_of_ble_eq_true rfl) dX11_take_55 ?_
        refine vv_iload_n (mi := mX11_take) (pc := 58) 0 dX11_take_58 rfl rfl ?_
        obtain ⟨aq13, hs14, h⟩ := h
        obtain ⟨ht15, h⟩ := h
        obtain ⟨hi16, h⟩ := h
        refine vv_iald (mi := mX11_take) (pc := 59) hs14 ht15 hi16 dX11_take_59 ?_
        refine vv_aload_n (mi := mX11_take) (pc := 60) 1 dX11_take_60 rfl rfl ?_
        refine vv_getR (mi := mX11_take) (pc := 61) 11 4 rfl ht5 fl_X11_16 (Nat.le_of_ble_eq_true rfl) dX11_take_61 ?_
        refine vv_iload_n (mi := mX11_take) (pc := 64) 0 dX11_take_64 rfl rfl ?_
        obtain ⟨aq17, hs18, h⟩ := h
        obtain ⟨ht19, h⟩ := h
        obtain ⟨hi20, h⟩ := h
        refine vv_iald (mi := mX11_take) (pc := 65) hs18 ht19 hi20 dX11_take_65 ?_
        refine vv_aload_n (mi := mX11_take) (pc := 66) 1 dX11_take_66 rfl rfl ?_
        refine vv_getR (mi := mX11_take) (pc := 67) 11 5 rfl ht5 fl_X11_19 (Nat.le_of_ble_eq_true rfl) dX11_take_67 ?_
        refine vv_iload_n (mi := mX11_take) (pc := 70) 0 dX11_take_70 rfl rfl ?_
        obtain ⟨aq21, hs22, h⟩ := h
        obtain ⟨ht23, h⟩ := h
        obtain ⟨hi24, h⟩ := h
        refine vv_iald (mi := mX11_take) (pc := 71) hs22 ht23 hi24 dX11_take_71 ?_
        refine vv_aload_n (mi := mX11_take) (pc := 72) 1 dX11_take_72 rfl rfl ?_
        refine vv_getR (mi := mX11_take) (pc := 73) 11 6 rfl ht5 fl_X11_22 (Nat.le_of_ble_eq_true rfl) dX11_take_73 ?_
        refine vv_iload_n (mi := mX11_take) (pc := 76) 0 dX11_take_76 rfl rfl ?_
        obtain ⟨aq25, hs26, h⟩ := h
        obtain ⟨ht27, h⟩ := h
        obtain ⟨hi28, h⟩ := h
        refine vv_iald (mi := mX11_take) (pc := 77) hs26 ht27 hi28 dX11_take_77 ?_
        refine vv_aload_n (mi := mX11_take) (pc := 78) 1 dX11_take_78 rfl rfl ?_
        refine vv_getR (mi := mX11_take) (pc := 79) 11 6 rfl ht5 fl_X11_22 (Nat.le_of_ble_eq_true rfl) dX11_take_79 ?_
        refine vv_iload_n (mi := mX11_take) (pc := 82) 0 dX11_take_82 rfl rfl ?_
        obtain ⟨hi29, h⟩ := h
        refine vv_iald (mi := mX11_take) (pc := 83) hs26 ht27 hi29 dX11_take_83 ?_
        refine vv_aload_n (mi := mX11_take) (pc := 84) 1 dX11_take_84 rfl rfl ?_
        refine vv_getR (mi := mX11_take) (pc := 85) 11 8 rfl ht5 fl_X11_28 (Nat.le_of_ble_eq_true rfl) dX11_take_85 ?_
        refine vv_iload_n (mi := mX11_take) (pc := 88) 0 dX11_take_88 rfl rfl ?_
        obtain ⟨hi30, h⟩ := h
        refine vv_iald (mi := mX11_take) (pc := 89) hs7 ht8 hi30 dX11_take_89 ?_
        refine vv_iconst (mi := mX11_take) (pc := 90) (-1) dX11_take_90 rfl ?_
        refine vv_iconst (mi := mX11_take) (pc := 91) (-1) dX11_take_91 rfl ?_
        refine vv_callV (mi := mX11_take) (pc := 92) (rest := []) (As := [.inl 0, .inl (ddI M3 aq13 (Int32.toNatClampNeg v12)), .inl (ddI M3 aq17 (Int32.toNatClampNeg v12)), .inl (ddI M3 aq21 (Int32.toNatClampNeg v12)), .inl (ddI M3 aq25 (Int32.toNatClampNeg v12)), .inl (ddI M3 aq25 (Int32.toNatClampNeg v12)), .inl (ddI M3 aq6 (Int32.toNatClampNeg v12)), .inl (-1), .inl (-1)]) (ctX11_add (X := X) h) dX11_take_92 rfl ht5 (Nat.le_of_ble_eq_true rfl) rfl mb_X11_add rfl ml_X11_157 im_X11_add se_X11_add ⟨(Nat.le_of_ble_eq_true rfl), (Nat.le_of_ble_eq_true rfl)⟩ ⟨(Nat.le_of_ble_eq_true rfl), (Nat.le_of_ble_eq_true rfl)⟩ (Nat.le_of_ble_eq_true rfl) rfl (kI_ (F := fun st M' => VV X mX11_take rX11_take (pI_ post) 95 [(2, .inl v12), (0, .inr (.inr (some this))), (1, .inl a1)] st M' 0 0) (fun r31 M32 h => ?_))
        refine vv_istore_n (mi := mX11_take) (pc := 95) [(3, .inl r31), (2, .inl v12), (0, .inr (.inr (some this))), (1, .inl a1)] dX11_take_95 rfl (Nat.le_of_ble_eq_true rfl) rfl ?_
        refine vv_aload_n (mi := mX11_take) (pc := 96) 2 dX11_take_96 rfl rfl ?_
        refine vv_dup (mi := mX11_take) (pc := 97) dX11_take_97 rfl ?_
        obtain ⟨ht33, h⟩ := h
        refine vv_getI (mi := mX11_take) (pc := 98) 11 35 rfl ht33 fl_X11_285 (Nat.le_of_ble_eq_true rfl) dX11_take_98 ?_
        refine vv_iconst (mi := mX11_take) (pc := 101) 1 dX11_take_101 rfl ?_
        refine vv_isub (mi := mX11_take) (pc := 102) dX11_take_102 ?_
        obtain ⟨M34, eM34⟩ : ∃ z : Mm, z = suI M32 this 35 ((ddI M32 this 35) - 1) := ⟨_, rfl⟩
        replace h := h _ eM34
        refine vv_putI (mi := mX11_take) (pc := 103) 11 35 rfl ht33 fq_X11_285 (fun q => by cases q) rfl (Nat.le_of_ble_eq_true rfl) dX11_take_103 eM34 ?_
        refine vv_iload_n (mi := mX11_take) (pc := 106) 3 dX11_take_106 rfl rfl ?_
        refine vv_istore (mi := mX11_take) (pc := 107) [(4, .inl a1), (3, .inl r31), (2, .inl v12), (0, .inr (.inr (some this))), (1, .inl a1)] dX11_take_107 (Nat.le_of_ble_eq_true rfl) rfl ?_
        refine vv_sub (mi := mX11_take) [(0, .inr (.inr (some this))), (3, .inl r31), (4, .inl a1)] [3, 1, 0] rfl ?_
        obtain ⟨fu, h⟩ := h
        exact loX11_take_109 (X := X)  fu h
      · replace h := h.2 c11
        refine vv_bipush (mi := mX11_take) (pc := 44) (-3) dX11_take_44 rfl ?_
        exact vv_iret (mi := mX11_take) (pc := 46) dX11_take_46 rfl (Nat.le_of_ble_eq_true rfl) (Nat.le_of_ble_eq_true rfl) h
    · replace h := h.2 c10
      refine vv_bipush (mi := mX11_take) (pc := 32) (-2) dX11_take_32 rfl ?_
      exact vv_iret (mi := mX11_take) (pc := 34) dX11_take_34 rfl (Nat.le_of_ble_eq_true rfl) (Nat.le_of_ble_eq_true rfl) h
set_option maxHeartbeats 4000000 in
set_option maxRecDepth 100000 in
theorem bX11_count_62 {X : Cx_} {kb62 : Nat → Int32 → Int32 → Mm → Prop} {post : Int32 → Mm → Prop} (hb62 : ∀ (this : Nat) (x2 : Int32) (x3 : Int32) (M : Mm), kb62 this x2 x3 M → VV X mX11_count rX11_count (pI_ post) 62 [(0, .inr (.inr (some this))), (2, .inl x2), (3, .inl x3)] [] M 0 0) {this : Nat} {x2 : Int32} {x3 : Int32} {M : Mm} (h : BX11_count_62 kb62 post this x2 x3 M) : VV X mX11_count rX11_count (pI_ post) 62 [(0, .inr (.inr (some this))), (2, .inl x2), (3, .inl x3)] [] M 0 0 := by
  unfold BX11_count_62 at h
  refine vv_iload_n (mi := mX11_count) (pc := 62) 2 dX11_count_62 rfl rfl ?_
  refine vv_aload_n (mi := mX11_count) (pc := 63) 0 dX11_count_63 rfl rfl ?_
  obtain ⟨ht6, h⟩ := h
  refine vv_getI (mi := mX11_count) (pc := 64) 11 1 rfl ht6 fl_X11_130 (Nat.le_of_ble_eq_true rfl) dX11_count_64 ?_
  refine vv_icmp_ge (mi := mX11_count) (pc := 67) 96 dX11_count_67 rfl (fun c7 => ?_) (fun c7 => ?_)
  · replace h := h.1 c7
    refine vv_iload_n (mi := mX11_count) (pc := 96) 1 dX11_count_96 rfl rfl ?_
    exact vv_iret (mi := mX11_count) (pc := 97) dX11_count_97 rfl (Nat.le_of_ble_eq_true rfl) (Nat.le_of_ble_eq_true rfl) h
  · replace h := h.2 c7
    refine vv_iload_n (mi := mX11_count) (pc := 70) 1 dX11_count_70 rfl rfl ?_
    refine vv_aload_n (mi := mX11_count) (pc := 71) 0 dX11_count_71 rfl rfl ?_
    refine vv_iload_n (mi := mX11_count) (pc := 72) 2 dX11_count_72 rfl rfl ?_
    refine vv_aload_n (mi := mX11_count) (pc := 73) 0 dX11_count_73 rfl rfl ?_
    refine vv_getI (mi := mX11_count) (pc := 74) 11 0 rfl ht6 fl_X11_114 (Nat.le_of_ble_eq_true rfl) dX11_count_74 ?_
    refine vv_callV (mi := mX11_count) (pc := 77) (rest := [.inl x2]) (As := [.inl x3, .inl (ddI M this 0)]) (ctX11_isForce (X := X) h) dX11_count_77 rfl ht6 (Nat.le_of_ble_eq_true rfl) rfl mb_X11_isForce rfl ml_X11_197 im_X11_isForce se_X11_isForce ⟨(Nat.le_of_ble_eq_true rfl), (Nat.le_of_ble_eq_true rfl)⟩ ⟨(Nat.le_of_ble_eq_true rfl), (Nat.le_of_ble_eq_true rfl)⟩ (Nat.le_of_ble_eq_true rfl) rfl (kI_ (F := fun st M' => VV X mX11_count rX11_count (pI_ post) 80 [(0, .inr (.inr (some this))), (2, .inl x2), (3, .inl x3)] st M' 0 0) (fun r8 M9 h => ?_))
    refine vv_if_eq (mi := mX11_count) (pc := 80) 87 dX11_count_80 rfl (fun c10 => ?_) (fun c10 => ?_)
    · replace h := h.1 c10
      refine vv_iconst (mi := mX11_count) (pc := 87) 0 dX11_count_87 rfl ?_
      refine vv_iadd (mi := mX11_count) (pc := 88) dX11_count_88 ?_
      obtain ⟨v11, ev11⟩ : ∃ z : Int32, z = (x2 + 0) := ⟨_, rfl⟩
      refine vv_namI ev11 ?_
      replace h := h _ ev11
      refine vv_istore_n (mi := mX11_count) (pc := 89) [(2, .inl v11), (0, .inr (.inr (some this))), (3, .inl x3)] dX11_count_89 rfl (Nat.le_of_ble_eq_true rfl) rfl ?_
      refine vv_iinc (mi := mX11_count) (pc := 90) (x3 + 1) 2 [(3, .inl (x3 + 1)), (2, .inl v11), (0, .inr (.inr (some this)))] dX11_count_90 rfl rfl (Nat.le_of_ble_eq_true rfl) rfl ?_
      refine vv_goto (mi := mX11_count) (pc := 93) 62 dX11_count_93 rfl ?_
      refine vv_sub (mi := mX11_count) [(0, .inr (.inr (some this))), (2, .inl v11), (3, .inl (x3 + 1))] [2, 1, 0] rfl ?_
      exact hb62 _ _ _ _ h
    · replace h := h.2 c10
      refine vv_iconst (mi := mX11_count) (pc := 83) 1 dX11_count_83 rfl ?_
      refine vv_goto (mi := mX11_count) (pc := 84) 88 dX11_count_84 rfl ?_
      refine vv_iadd (mi := mX11_count) (pc := 88) dX11_count_88 ?_
      obtain ⟨v12, ev12⟩ : ∃ z : Int32, z = (x2 + 1) := ⟨_, rfl⟩
      refine vv_namI ev12 ?_
      replace h := h _ ev12
      refine vv_istore_n (mi := mX11_count) (pc := 89) [(2, .inl v12), (0, .inr (.inr (some this))), (3, .inl x3)] dX11_count_89 rfl (Nat.le_of_ble_eq_true rfl) rfl ?_
      refine vv_iinc (mi := mX11_count) (pc := 90) (x3 + 1) 2 [(3, .inl (x3 + 1)), (2, .inl v12), (0, .inr (.inr (some this)))] dX11_count_90 rfl rfl (Nat.le_of_ble_eq_true rfl) rfl ?_
      refine vv_goto (mi := mX11_count) (pc := 93) 62 dX11_count_93 rfl ?_
      refine vv_sub (mi := mX11_count) [(0, .inr (.inr (some this))), (2, .inl v12), (3, .inl (x3 + 1))] [2, 1, 0] rfl ?_
      exact hb62 _ _ _ _ h
theorem loX11_count_62 {X : Cx_}  {post : Int32 → Mm → Prop}  : ∀ (fu : Nat) {this : Nat} {x2 : Int32} {x3 : Int32} {M : Mm}, DX11_count_62  post fu this x2 x3 M → VV X mX11_count rX11_count (pI_ post) 62 [(0, .inr (.inr (some this))), (2, .inl x2), (3, .inl x3)] [] M 0 0
  | 0, _, _, _, _, h => False.elim h
  | fu + 1, _, _, _, _, h => bX11_count_62 (fun this x2 x3 M h => loX11_count_62  fu h) h
set_option maxHeartbeats 4000000 in
set_option maxRecDepth 100000 in
theorem bX11_count_100 {X : Cx_} {kb100 : Nat → Int32 → Int32 → Mm → Prop} {post : Int32 → Mm → Prop} (hb100 : ∀ (this : Nat) (x2 : Int32) (x3 : Int32) (M : Mm), kb100 this x2 x3 M → VV X mX11_count rX11_count (pI_ post) 100 [(0, .inr (.inr (some this))), (2, .inl x2), (3, .inl x3)] [] M 0 0) {this : Nat} {x2 : Int32} {x3 : Int32} {M : Mm} (h : BX11_count_100 kb100 post this x2 x3 M) : VV X mX11_count rX11_count (pI_ post) 100 [(0, .inr (.inr (some this))), (2, .inl x2), (3, .inl x3)] [] M 0 0 := by
  unfold BX11_count_100 at h
  refine vv_iload_n (mi := mX11_count) (pc := 100) 2 dX11_count_100 rfl rfl ?_
  refine vv_aload_n (mi := mX11_count) (pc := 101) 0 dX11_count_101 rfl rfl ?_
  obtain ⟨ht13, h⟩ := h
  refine vv_getI (mi := mX11_count) (pc := 102) 11 16 rfl ht13 fl_X11_207 (Nat.le_of_ble_eq_true rfl) dX11_count_102 ?_
  refine vv_icmp_ge (mi := mX11_count) (pc := 105) 135 dX11_count_105 rfl (fun c14 => ?_) (fun c14 => ?_)
  · replace h := h.1 c14
    refine vv_iload_n (mi := mX11_count) (pc := 135) 1 dX11_count_135 rfl rfl ?_
    exact vv_iret (mi := mX11_count) (pc := 136) dX11_count_136 rfl (Nat.le_of_ble_eq_true rfl) (Nat.le_of_ble_eq_true rfl) h
  · replace h := h.2 c14
    refine vv_iload_n (mi := mX11_count) (pc := 108) 1 dX11_count_108 rfl rfl ?_
    refine vv_aload_n (mi := mX11_count) (pc := 109) 0 dX11_count_109 rfl rfl ?_
    refine vv_iload_n (mi := mX11_count) (pc := 110) 2 dX11_count_110 rfl rfl ?_
    refine vv_aload_n (mi := mX11_count) (pc := 111) 0 dX11_count_111 rfl rfl ?_
    refine vv_getI (mi := mX11_count) (pc := 112) 11 0 rfl ht13 fl_X11_114 (Nat.le_of_ble_eq_true rfl) dX11_count_112 ?_
    refine vv_callV (mi := mX11_count) (pc := 115) (rest := [.inl x2]) (As := [.inl x3, .inl (ddI M this 0)]) (ctX11_blockOf (X := X) h) dX11_count_115 rfl ht13 (Nat.le_of_ble_eq_true rfl) rfl mb_X11_blockOf rfl ml_X11_210 im_X11_blockOf se_X11_blockOf ⟨(Nat.le_of_ble_eq_true rfl), (Nat.le_of_ble_eq_true rfl)⟩ ⟨(Nat.le_of_ble_eq_true rfl), (Nat.le_of_ble_eq_true rfl)⟩ (Nat.le_of_ble_eq_true rfl) rfl (kI_ (F := fun st M' => VV X mX11_count rX11_count (pI_ post) 118 [(0, .inr (.inr (some this))), (2, .inl x2), (3, .inl x3)] st M' 0 0) (fun r15 M16 h => ?_))
    refine vv_iconst (mi := mX11_count) (pc := 118) (-1) dX11_count_118 rfl ?_
    refine vv_icmp_eq (mi := mX11_count) (pc := 119) 126 dX11_count_119 rfl (fun c17 => ?_) (fun c17 => ?_)
    · replace h := h.1 c17
      refine vv_iconst (mi := mX11_count) (pc := 126) 0 dX11_count_126 rfl ?_
      refine vv_iadd (mi := mX11_count) (pc := 127) dX11_count_127 ?_
      obtain ⟨v18, ev18⟩ : ∃ z : Int32, z = (x2 + 0) := ⟨_, rfl⟩
      refine vv_namI ev18 ?_
      replace h := h _ ev18
      refine vv_istore_n (mi := mX11_count) (pc := 128) [(2, .inl v18), (0, .inr (.inr (some this))), (3, .inl x3)] dX11_count_128 rfl (Nat.le_of_ble_eq_true rfl) rfl ?_
      refine vv_iinc (mi := mX11_count) (pc := 129) (x3 + 1) 2 [(3, .inl (x3 + 1)), (2, .inl v18), (0, .inr (.inr (some this)))] dX11_count_129 rfl rfl (Nat.le_of_ble_eq_true rfl) rfl ?_
      refine vv_goto (mi := mX11_count) (pc := 132) 100 dX11_count_132 rfl ?_
      refine vv_sub (mi := mX11_count) [(0, .inr (.inr (some this))), (2, .inl v18), (3, .inl (x3 + 1))] [2, 1, 0] rfl ?_
      exact hb100 _ _ _ _ h
    · replace h := h.2 c17
      refine vv_iconst (mi := mX11_count) (pc := 122) 1 dX11_count_122 rfl ?_
      refine vv_goto (mi := mX11_count) (pc := 123) 127 dX11_count_123 rfl ?_
      refine vv_iadd (mi := mX11_count) (pc := 127) dX11_count_127 ?_
      obtain ⟨v19, ev19⟩ : ∃ z : Int32, z = (x2 + 1) := ⟨_, rfl⟩
      refine vv_namI ev19 ?_
      replace h := h _ ev19
      refine vv_istore_n (mi := mX11_count) (pc := 128) [(2, .inl v19), (0, .inr (.inr (some this))), (3, .inl x3)] dX11_count_128 rfl (Nat.le_of_ble_eq_true rfl) rfl ?_
      refine vv_iinc (mi := mX11_count) (pc := 129) (x3 + 1) 2 [(3, .inl (x3 + 1)), (2, .inl v19), (0, .inr (.inr (some this)))] dX11_count_129 rfl rfl (Nat.le_of_ble_eq_true rfl) rfl ?_
      refine vv_goto (mi := mX11_count) (pc := 132) 100 dX11_count_132 rfl ?_
      refine vv_sub (mi := mX11_count) [(0, .inr (.inr (some this))), (2, .inl v19), (3, .inl (x3 + 1))] [2, 1, 0] rfl ?_
      exact hb100 _ _ _ _ h
theorem loX11_count_100 {X : Cx_}  {post : Int32 → Mm → Prop}  : ∀ (fu : Nat) {this : Nat} {x2 : Int32} {x3 : Int32} {M : Mm}, DX11_count_100  post fu this x2 x3 M → VV X mX11_count rX11_count (pI_ post) 100 [(0, .inr (.inr (some this))), (2, .inl x2), (3, .inl x3)] [] M 0 0
  | 0, _, _, _, _, h => False.elim h
  | fu + 1, _, _, _, _, h => bX11_count_100 (fun this x2 x3 M h => loX11_count_100  fu h) h
set_option maxHeartbeats 4000000 in
set_option maxRecDepth 100000 in
theorem ctX11_count {X : Cx_} {this : Nat} {a1 : Int32} {M : Mm} {post : Int32 → Mm → Prop} (h : PX11_count this a1 M post) : CT X mX11_count rX11_count [.inr (.inr (some this)), .inl a1] M (pI_ post) := by
  unfold PX11_count at h
  refine CT.of (by decide +kernel) (Nat.le_of_ble_eq_true rfl) ?_
  show VV X mX11_count rX11_count (pI_ post) 0 [(0, .inr (.inr (some this))), (1, .inl a1)] [] M 0 0
  refine vv_iconst (mi := mX11_count) (pc := 0) 0 dX11_count_0 rfl ?_
  refine vv_istore_n (mi := mX11_count) (pc := 1) [(2, .inl 0), (0, .inr (.inr (some this))), (1, .inl a1)] dX11_count_1 rfl (Nat.le_of_ble_eq_true rfl) rfl ?_
  refine vv_iload_n (mi := mX11_count) (pc := 2) 2 dX11_count_2 rfl rfl ?_
  refine vv_tsw (mi := mX11_count) (pc := 3) 137 [40, 45, 50, 55, 60, 98] dX11_count_3 rfl rfl rfl (fun j t c1 c1e => ?_) (fun c1 => ?_)
  · match j, c1, c1e with
    | 0, c1, c1e =>
      cases c1
      replace h := h.1 c1e
      refine vv_aload_n (mi := mX11_count) (pc := 40) 1 dX11_count_40 rfl rfl ?_
      obtain ⟨ht2, h⟩ := h
      refine vv_getI (mi := mX11_count) (pc := 41) 11 1 rfl ht2 fl_X11_130 (Nat.le_of_ble_eq_true rfl) dX11_count_41 ?_
      exact vv_iret (mi := mX11_count) (pc := 44) dX11_count_44 rfl (Nat.le_of_ble_eq_true rfl) (Nat.le_of_ble_eq_true rfl) h
    | 1, c1, c1e =>
      cases c1
      replace h := h.2.1 c1e
      refine vv_aload_n (mi := mX11_count) (pc := 45) 1 dX11_count_45 rfl rfl ?_
      obtain ⟨ht3, h⟩ := h
      refine vv_getI (mi := mX11_count) (pc := 46) 11 16 rfl ht3 fl_X11_207 (Nat.le_of_ble_eq_true rfl) dX11_count_46 ?_
      exact vv_iret (mi := mX11_count) (pc := 49) dX11_count_49 rfl (Nat.le_of_ble_eq_true rfl) (Nat.le_of_ble_eq_true rfl) h
    | 2, c1, c1e =>
      cases c1
      replace h := h.2.2.1 c1e
      refine vv_aload_n (mi := mX11_count) (pc := 50) 1 dX11_count_50 rfl rfl ?_
      obtain ⟨ht4, h⟩ := h
      refine vv_getI (mi := mX11_count) (pc := 51) 11 35 rfl ht4 fl_X11_285 (Nat.le_of_ble_eq_true rfl) dX11_count_51 ?_
      exact vv_iret (mi := mX11_count) (pc := 54) dX11_count_54 rfl (Nat.le_of_ble_eq_true rfl) (Nat.le_of_ble_eq_true rfl) h
    | 3, c1, c1e =>
      cases c1
      replace h := h.2.2.2.1 c1e
      refine vv_aload_n (mi := mX11_count) (pc := 55) 1 dX11_count_55 rfl rfl ?_
      obtain ⟨ht5, h⟩ := h
      refine vv_getI (mi := mX11_count) (pc := 56) 11 0 rfl ht5 fl_X11_114 (Nat.le_of_ble_eq_true rfl) dX11_count_56 ?_
      exact vv_iret (mi := mX11_count) (pc := 59) dX11_count_59 rfl (Nat.le_of_ble_eq_true rfl) (Nat.le_of_ble_eq_true rfl) h
    | 4, c1, c1e =>
      cases c1
      replace h := h.2.2.2.2.1 c1e
      refine vv_iconst (mi := mX11_count) (pc := 60) 0 dX11_count_60 rfl ?_
      refine vv_istore_n (mi := mX11_count) (pc := 61) [(3, .inl 0), (2, .inl 0), (0, .inr (.inr (some this))), (1, .inl a1)] dX11_count_61 rfl (Nat.le_of_ble_eq_true rfl) rfl ?_
      refine vv_sub (mi := mX11_count) [(0, .inr (.inr (some this))), (2, .inl 0), (3, .inl 0)] [2, 1, 0] rfl ?_
      obtain ⟨fu, h⟩ := h
      exact loX11_count_62 (X := X)  fu h
    | 5, c1, c1e =>
      cases c1
      replace h := h.2.2.2.2.2.1 c1e
      refine vv_iconst (mi := mX11_count) (pc := 98) 0 dX11_count_98 rfl ?_
      refine vv_istore_n (mi := mX11_count) (pc := 99) [(3, .inl 0), (2, .inl 0), (0, .inr (.inr (some this))), (1, .inl a1)] dX11_count_99 rfl (Nat.le_of_ble_eq_true rfl) rfl ?_
      refine vv_sub (mi := mX11_count) [(0, .inr (.inr (some this))), (2, .inl 0), (3, .inl 0)] [2, 1, 0] rfl ?_
      obtain ⟨fu, h⟩ := h
      exact loX11_count_100 (X := X)  fu h
    | (j + 6), c1, _ => exact absurd c1 (by simp)
  · replace h := h.2.2.2.2.2.2 c1
    refine vv_iconst (mi := mX11_count) (pc := 137) (-1) dX11_count_137 rfl ?_
    exact vv_iret (mi := mX11_count) (pc := 138) dX11_count_138 rfl (Nat.le_of_ble_eq_true rfl) (Nat.le_of_ble_eq_true rfl) h
