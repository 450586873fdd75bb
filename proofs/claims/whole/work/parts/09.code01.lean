set_option maxHeartbeats 4000000 in
set_option maxRecDepth 100000 in
theorem ctX6_entryAt {X : Cx_} {this : Nat} {a1 : Int32} {M : Mm} {post : Option Nat → Mm → Prop} (h : PX6_entryAt this a1 M post) : CT X mX6_entryAt rX6_entryAt [.inr (.inr (some this)), .inl a1] M (pR_ post) := by
  unfold PX6_entryAt at h
  refine CT.of (by decide +kernel) (Nat.le_of_ble_eq_true rfl) ?_
  show VV X mX6_entryAt rX6_entryAt (pR_ post) 0 [(0, .inr (.inr (some this))), (1, .inl a1)] [] M 0 0
  refine vv_iload_n (mi := mX6_entryAt) (pc := 0) 1 dX6_entryAt_0 rfl rfl ?_
  refine vv_if_lt (mi := mX6_entryAt) (pc := 1) 30 dX6_entryAt_1 rfl (fun c1 => ?_) (fun c1 => ?_)
  · replace h := h.1 c1
    refine vv_null (mi := mX6_entryAt) (pc := 30) dX6_entryAt_30 ?_
    exact vv_aret (mi := mX6_entryAt) (pc := 31) dX6_entryAt_31 rfl (Nat.le_of_ble_eq_true rfl) (Nat.le_of_ble_eq_true rfl) h
  · replace h := h.2 c1
    refine vv_iload_n (mi := mX6_entryAt) (pc := 4) 1 dX6_entryAt_4 rfl rfl ?_
    refine vv_aload_n (mi := mX6_entryAt) (pc := 5) 0 dX6_entryAt_5 rfl rfl ?_
    obtain ⟨ht2, h⟩ := h
    refine vv_getI (mi := mX6_entryAt) (pc := 6) 6 1 rfl ht2 fl_X6_17 (Nat.le_of_ble_eq_true rfl) dX6_entryAt_6 ?_
    refine vv_icmp_ge (mi := mX6_entryAt) (pc := 9) 30 dX6_entryAt_9 rfl (fun c3 => ?_) (fun c3 => ?_)
    · replace h := h.1 c3
      refine vv_null (mi := mX6_entryAt) (pc := 30) dX6_entryAt_30 ?_
      exact vv_aret (mi := mX6_entryAt) (pc := 31) dX6_entryAt_31 rfl (Nat.le_of_ble_eq_true rfl) (Nat.le_of_ble_eq_true rfl) h
    · replace h := h.2 c3
      refine vv_iload_n (mi := mX6_entryAt) (pc := 12) 1 dX6_entryAt_12 rfl rfl ?_
      refine vv_aload_n (mi := mX6_entryAt) (pc := 13) 0 dX6_entryAt_13 rfl rfl ?_
      refine vv_getR (mi := mX6_entryAt) (pc := 14) 6 0 rfl ht2 fl_X6_11 (Nat.le_of_ble_eq_true rfl) dX6_entryAt_14 ?_
      obtain ⟨aq4, hs5, h⟩ := h
      obtain ⟨ht6, h⟩ := h
      refine vv_alen (mi := mX6_entryAt) (pc := 17) (t := 25) (Nat.le_of_ble_eq_true rfl) (Nat.le_of_ble_eq_true rfl) rfl hs5 ht6 dX6_entryAt_17 ?_
      refine vv_icmp_ge (mi := mX6_entryAt) (pc := 18) 30 dX6_entryAt_18 rfl (fun c7 => ?_) (fun c7 => ?_)
      · replace h := h.1 c7
        refine vv_null (mi := mX6_entryAt) (pc := 30) dX6_entryAt_30 ?_
        exact vv_aret (mi := mX6_entryAt) (pc := 31) dX6_entryAt_31 rfl (Nat.le_of_ble_eq_true rfl) (Nat.le_of_ble_eq_true rfl) h
      · replace h := h.2 c7
        refine vv_aload_n (mi := mX6_entryAt) (pc := 21) 0 dX6_entryAt_21 rfl rfl ?_
        refine vv_getR (mi := mX6_entryAt) (pc := 22) 6 0 rfl ht2 fl_X6_11 (Nat.le_of_ble_eq_true rfl) dX6_entryAt_22 ?_
        refine vv_iload_n (mi := mX6_entryAt) (pc := 25) 1 dX6_entryAt_25 rfl rfl ?_
        obtain ⟨hi8, h⟩ := h
        refine vv_aald (mi := mX6_entryAt) (pc := 26) (t := 25) (Nat.le_of_ble_eq_true rfl) rfl hs5 ht6 hi8 dX6_entryAt_26 ?_
        refine vv_goto (mi := mX6_entryAt) (pc := 27) 31 dX6_entryAt_27 rfl ?_
        exact vv_aret (mi := mX6_entryAt) (pc := 31) dX6_entryAt_31 rfl (Nat.le_of_ble_eq_true rfl) (Nat.le_of_ble_eq_true rfl) h
set_option maxHeartbeats 4000000 in
set_option maxRecDepth 100000 in
theorem ctX6_blockAt {X : Cx_} {this : Nat} {a1 : Int32} {M : Mm} {post : Option Nat → Mm → Prop} (h : PX6_blockAt this a1 M post) : CT X mX6_blockAt rX6_blockAt [.inr (.inr (some this)), .inl a1] M (pR_ post) := by
  unfold PX6_blockAt at h
  refine CT.of (by decide +kernel) (Nat.le_of_ble_eq_true rfl) ?_
  show VV X mX6_blockAt rX6_blockAt (pR_ post) 0 [(0, .inr (.inr (some this))), (1, .inl a1)] [] M 0 0
  refine vv_aload_n (mi := mX6_blockAt) (pc := 0) 0 dX6_blockAt_0 rfl rfl ?_
  refine vv_iload_n (mi := mX6_blockAt) (pc := 1) 1 dX6_blockAt_1 rfl rfl ?_
  obtain ⟨ht1, h⟩ := h
  refine vv_callV (mi := mX6_blockAt) (pc := 2) (rest := []) (As := [.inl a1]) (ctX6_entryAt (X := X) h) dX6_blockAt_2 rfl ht1 (Nat.le_of_ble_eq_true rfl) rfl mb_X6_entryAt rfl ml_X6_28 im_X6_entryAt se_X6_entryAt ⟨(Nat.le_of_ble_eq_true rfl), (Nat.le_of_ble_eq_true rfl)⟩ ⟨(Nat.le_of_ble_eq_true rfl), (Nat.le_of_ble_eq_true rfl)⟩ (Nat.le_of_ble_eq_true rfl) rfl (kR_ (F := fun st M' => VV X mX6_blockAt rX6_blockAt (pR_ post) 5 [(0, .inr (.inr (some this))), (1, .inl a1)] st M' 0 0) (fun r2 M3 h => ?_))
  refine vv_astore_n (mi := mX6_blockAt) (pc := 5) [(2, .inr (.inr r2)), (0, .inr (.inr (some this))), (1, .inl a1)] dX6_blockAt_5 rfl (Nat.le_of_ble_eq_true rfl) rfl ?_
  refine vv_aload_n (mi := mX6_blockAt) (pc := 6) 0 dX6_blockAt_6 rfl rfl ?_
  refine vv_ifnull (mi := mX6_blockAt) (pc := 7) 21 dX6_blockAt_7 rfl (fun c4 => ?_) (fun aq5 c4 => ?_)
  · replace h := h.1 c4
    refine vv_null (mi := mX6_blockAt) (pc := 21) dX6_blockAt_21 ?_
    exact vv_aret (mi := mX6_blockAt) (pc := 22) dX6_blockAt_22 rfl (Nat.le_of_ble_eq_true rfl) (Nat.le_of_ble_eq_true rfl) h
  · replace h := h.2 aq5 c4
    refine vv_aload_n (mi := mX6_blockAt) (pc := 10) 0 dX6_blockAt_10 rfl rfl ?_
    obtain ⟨ht6, h⟩ := h
    refine vv_getI (mi := mX6_blockAt) (pc := 11) 2 0 c4 ht6 fl_X6_32 (Nat.le_of_ble_eq_true rfl) dX6_blockAt_11 ?_
    refine vv_if_ne (mi := mX6_blockAt) (pc := 14) 21 dX6_blockAt_14 rfl (fun c7 => ?_) (fun c7 => ?_)
    · replace h := h.1 c7
      refine vv_null (mi := mX6_blockAt) (pc := 21) dX6_blockAt_21 ?_
      exact vv_aret (mi := mX6_blockAt) (pc := 22) dX6_blockAt_22 rfl (Nat.le_of_ble_eq_true rfl) (Nat.le_of_ble_eq_true rfl) h
    · replace h := h.2 c7
      refine vv_aload_n (mi := mX6_blockAt) (pc := 17) 0 dX6_blockAt_17 rfl rfl ?_
      refine vv_goto (mi := mX6_blockAt) (pc := 18) 22 dX6_blockAt_18 rfl ?_
      exact vv_aret (mi := mX6_blockAt) (pc := 22) dX6_blockAt_22 rfl (Nat.le_of_ble_eq_true rfl) (Nat.le_of_ble_eq_true rfl) h
set_option maxHeartbeats 4000000 in
set_option maxRecDepth 100000 in
theorem ctX6_hasRoomFor {X : Cx_} {this : Nat} {a1 : Int32} {M : Mm} {post : Int32 → Mm → Prop} (h : PX6_hasRoomFor this a1 M post) : CT X mX6_hasRoomFor rX6_hasRoomFor [.inr (.inr (some this)), .inl a1] M (pI_ post) := by
  unfold PX6_hasRoomFor at h
  refine CT.of (by decide +kernel) (Nat.le_of_ble_eq_true rfl) ?_
  show VV X mX6_hasRoomFor rX6_hasRoomFor (pI_ post) 0 [(0, .inr (.inr (some this))), (1, .inl a1)] [] M 0 0
  refine vv_aload_n (mi := mX6_hasRoomFor) (pc := 0) 0 dX6_hasRoomFor_0 rfl rfl ?_
  obtain ⟨ht1, h⟩ := h
  refine vv_getI (mi := mX6_hasRoomFor) (pc := 1) 6 1 rfl ht1 fl_X6_17 (Nat.le_of_ble_eq_true rfl) dX6_hasRoomFor_1 ?_
  refine vv_iload_n (mi := mX6_hasRoomFor) (pc := 4) 1 dX6_hasRoomFor_4 rfl rfl ?_
  refine vv_iadd (mi := mX6_hasRoomFor) (pc := 5) dX6_hasRoomFor_5 ?_
  refine vv_bipush (mi := mX6_hasRoomFor) (pc := 6) 120 dX6_hasRoomFor_6 rfl ?_
  refine vv_icmp_gt (mi := mX6_hasRoomFor) (pc := 8) 15 dX6_hasRoomFor_8 rfl (fun c2 => ?_) (fun c2 => ?_)
  · replace h := h.1 c2
    refine vv_iconst (mi := mX6_hasRoomFor) (pc := 15) 0 dX6_hasRoomFor_15 rfl ?_
    exact vv_zret (mi := mX6_hasRoomFor) (pc := 16) dX6_hasRoomFor_16 rfl (Or.inl rfl) (Nat.le_of_ble_eq_true rfl) (Nat.le_of_ble_eq_true rfl) h
  · replace h := h.2 c2
    refine vv_iconst (mi := mX6_hasRoomFor) (pc := 11) 1 dX6_hasRoomFor_11 rfl ?_
    refine vv_goto (mi := mX6_hasRoomFor) (pc := 12) 16 dX6_hasRoomFor_12 rfl ?_
    exact vv_zret (mi := mX6_hasRoomFor) (pc := 16) dX6_hasRoomFor_16 rfl (Or.inr rfl) (Nat.le_of_ble_eq_true rfl) (Nat.le_of_ble_eq_true rfl) h
set_option maxHeartbeats 4000000 in
set_option maxRecDepth 100000 in
theorem bX6_append_13 {X : Cx_} {kb13 : Nat → (Option Nat) → Int32 → Mm → Prop} {post : Int32 → Mm → Prop} (hb13 : ∀ (this : Nat) (x1 : Option Nat) (x2 : Int32) (M : Mm), kb13 this x1 x2 M → VV X mX6_append rX6_append (pI_ post) 13 [(0, .inr (.inr (some this))), (1, .inr (.inr x1)), (2, .inl x2)] [] M 0 0) {this : Nat} {x1 : Option Nat} {x2 : Int32} {M : Mm} (h : BX6_append_13 kb13 post this x1 x2 M) : VV X mX6_append rX6_append (pI_ post) 13 [(0, .inr (.inr (some this))), (1, .inr (.inr x1)), (2, .inl x2)] [] M 0 0 := by
  unfold BX6_append_13 at h
  refine vv_iload_n (mi := mX6_append) (pc := 13) 2 dX6_append_13 rfl rfl ?_
  refine vv_aload_n (mi := mX6_append) (pc := 14) 0 dX6_append_14 rfl rfl ?_
  obtain ⟨ht5, h⟩ := h
  refine vv_getI (mi := mX6_append) (pc := 15) 6 1 rfl ht5 fl_X6_17 (Nat.le_of_ble_eq_true rfl) dX6_append_15 ?_
  refine vv_icmp_ge (mi := mX6_append) (pc := 18) 53 dX6_append_18 rfl (fun c6 => ?_) (fun c6 => ?_)
  · replace h := h.1 c6
    refine vv_aload_n (mi := mX6_append) (pc := 53) 1 dX6_append_53 rfl rfl ?_
    refine vv_aload_n (mi := mX6_append) (pc := 54) 0 dX6_append_54 rfl rfl ?_
    refine vv_getI (mi := mX6_append) (pc := 55) 6 1 rfl ht5 fl_X6_17 (Nat.le_of_ble_eq_true rfl) dX6_append_55 ?_
    obtain ⟨aq7, hs8, h⟩ := h
    obtain ⟨ht9, h⟩ := h
    obtain ⟨M10, eM10⟩ : ∃ z : Mm, z = suI M aq7 9 (ddI M this 1) := ⟨_, rfl⟩
    replace h := h _ eM10
    refine vv_putI (mi := mX6_append) (pc := 58) 2 9 hs8 ht9 fq_X6_47 (fun q => by cases q) rfl (Nat.le_of_ble_eq_true rfl) dX6_append_58 eM10 ?_
    refine vv_aload_n (mi := mX6_append) (pc := 61) 0 dX6_append_61 rfl rfl ?_
    refine vv_getR (mi := mX6_append) (pc := 62) 6 0 rfl (tgI_ eM10 ht5) fl_X6_11 (Nat.le_of_ble_eq_true rfl) dX6_append_62 ?_
    refine vv_aload_n (mi := mX6_append) (pc := 65) 0 dX6_append_65 rfl rfl ?_
    refine vv_getI (mi := mX6_append) (pc := 66) 6 1 rfl (tgI_ eM10 ht5) fl_X6_17 (Nat.le_of_ble_eq_true rfl) dX6_append_66 ?_
    refine vv_aload_n (mi := mX6_append) (pc := 69) 1 dX6_append_69 rfl rfl ?_
    obtain ⟨aq11, hs12, h⟩ := h
    obtain ⟨ht13, h⟩ := h
    obtain ⟨hi14, h⟩ := h
    obtain ⟨M15, eM15⟩ : ∃ z : Mm, z = suR M10 aq11 (Int32.toNatClampNeg (ddI M10 this 1)) x1 := ⟨_, rfl⟩
    replace h := h _ eM15
    refine vv_aast (mi := mX6_append) (pc := 70) (t := 25) (ci := 2) (r := (RX2, TX2, 18)) (Nat.le_of_ble_eq_true rfl) (Nat.le_of_ble_eq_true rfl) rfl rfl hs8 (tgI_ eM10 ht9) hs12 ht13 hi14 dX6_append_70 eM15 ?_
    refine vv_aload_n (mi := mX6_append) (pc := 71) 0 dX6_append_71 rfl rfl ?_
    refine vv_dup (mi := mX6_append) (pc := 72) dX6_append_72 rfl ?_
    refine vv_getI (mi := mX6_append) (pc := 73) 6 1 rfl (tgR_ eM15 (tgI_ eM10 ht5)) fl_X6_17 (Nat.le_of_ble_eq_true rfl) dX6_append_73 ?_
    refine vv_iconst (mi := mX6_append) (pc := 76) 1 dX6_append_76 rfl ?_
    refine vv_iadd (mi := mX6_append) (pc := 77) dX6_append_77 ?_
    obtain ⟨M16, eM16⟩ : ∃ z : Mm, z = suI M15 this 1 ((ddI M15 this 1) + 1) := ⟨_, rfl⟩
    replace h := h _ eM16
    refine vv_putI (mi := mX6_append) (pc := 78) 6 1 rfl (tgR_ eM15 (tgI_ eM10 ht5)) fq_X6_17 (fun q => by cases q) rfl (Nat.le_of_ble_eq_true rfl) dX6_append_78 eM16 ?_
    refine vv_aload_n (mi := mX6_append) (pc := 81) 1 dX6_append_81 rfl rfl ?_
    refine vv_getI (mi := mX6_append) (pc := 82) 2 9 hs8 (tgI_ eM16 (tgR_ eM15 (tgI_ eM10 ht9))) fl_X6_47 (Nat.le_of_ble_eq_true rfl) dX6_append_82 ?_
    exact vv_iret (mi := mX6_append) (pc := 85) dX6_append_85 rfl (Nat.le_of_ble_eq_true rfl) (Nat.le_of_ble_eq_true rfl) h
  · replace h := h.2 c6
    refine vv_aload_n (mi := mX6_append) (pc := 21) 0 dX6_append_21 rfl rfl ?_
    refine vv_iload_n (mi := mX6_append) (pc := 22) 2 dX6_append_22 rfl rfl ?_
    refine vv_callV (mi := mX6_append) (pc := 23) (rest := []) (As := [.inl x2]) (ctX6_entryAt (X := X) h) dX6_append_23 rfl ht5 (Nat.le_of_ble_eq_true rfl) rfl mb_X6_entryAt rfl ml_X6_28 im_X6_entryAt se_X6_entryAt ⟨(Nat.le_of_ble_eq_true rfl), (Nat.le_of_ble_eq_true rfl)⟩ ⟨(Nat.le_of_ble_eq_true rfl), (Nat.le_of_ble_eq_true rfl)⟩ (Nat.le_of_ble_eq_true rfl) rfl (kR_ (F := fun st M' => VV X mX6_append rX6_append (pI_ post) 26 [(0, .inr (.inr (some this))), (1, .inr (.inr x1)), (2, .inl x2)] st M' 0 0) (fun r17 M18 h => ?_))
    refine vv_astore_n (mi := mX6_append) (pc := 26) [(3, .inr (.inr r17)), (0, .inr (.inr (some this))), (1, .inr (.inr x1)), (2, .inl x2)] dX6_append_26 rfl (Nat.le_of_ble_eq_true rfl) rfl ?_
    refine vv_aload_n (mi := mX6_append) (pc := 27) 0 dX6_append_27 rfl rfl ?_
    refine vv_ifnull (mi := mX6_append) (pc := 28) 47 dX6_append_28 rfl (fun c19 => ?_) (fun aq20 c19 => ?_)
    · replace h := h.1 c19
      refine vv_iinc (mi := mX6_append) (pc := 47) (x2 + 1) 3 [(2, .inl (x2 + 1)), (3, .inr (.inr r17)), (0, .inr (.inr (some this))), (1, .inr (.inr x1))] dX6_append_47 rfl rfl (Nat.le_of_ble_eq_true rfl) rfl ?_
      refine vv_goto (mi := mX6_append) (pc := 50) 13 dX6_append_50 rfl ?_
      refine vv_sub (mi := mX6_append) [(0, .inr (.inr (some this))), (1, .inr (.inr x1)), (2, .inl (x2 + 1))] [2, 3, 0] rfl ?_
      exact hb13 _ _ _ _ h
    · replace h := h.2 aq20 c19
      refine vv_aload_n (mi := mX6_append) (pc := 31) 0 dX6_append_31 rfl rfl ?_
      refine vv_aload_n (mi := mX6_append) (pc := 32) 2 dX6_append_32 rfl rfl ?_
      obtain ⟨ht21, h⟩ := h
      refine vv_callV (mi := mX6_append) (pc := 33) (rest := []) (As := [.inr (.inr x1)]) (ctX2_clashesWith (X := X) h) dX6_append_33 c19 ht21 (Nat.le_of_ble_eq_true rfl) rfl mb_X2_clashesWith rfl ml_X6_39 im_X2_clashesWith se_X2_clashesWith ⟨(Nat.le_of_ble_eq_true rfl), (Nat.le_of_ble_eq_true rfl)⟩ ⟨(Nat.le_of_ble_eq_true rfl), (Nat.le_of_ble_eq_true rfl)⟩ (Nat.le_of_ble_eq_true rfl) rfl (kI_ (F := fun st M' => VV X mX6_append rX6_append (pI_ post) 36 [(3, .inr (.inr r17)), (0, .inr (.inr (some this))), (1, .inr (.inr x1)), (2, .inl x2)] st M' 0 0) (fun r22 M23 h => ?_))
      refine vv_if_eq (mi := mX6_append) (pc := 36) 47 dX6_append_36 rfl (fun c24 => ?_) (fun c24 => ?_)
      · replace h := h.1 c24
        refine vv_iinc (mi := mX6_append) (pc := 47) (x2 + 1) 3 [(2, .inl (x2 + 1)), (3, .inr (.inr r17)), (0, .inr (.inr (some this))), (1, .inr (.inr x1))] dX6_append_47 rfl rfl (Nat.le_of_ble_eq_true rfl) rfl ?_
        refine vv_goto (mi := mX6_append) (pc := 50) 13 dX6_append_50 rfl ?_
        refine vv_sub (mi := mX6_append) [(0, .inr (.inr (some this))), (1, .inr (.inr x1)), (2, .inl (x2 + 1))] [2, 3, 0] rfl ?_
        exact hb13 _ _ _ _ h
      · replace h := h.2 c24
        refine vv_aload_n (mi := mX6_append) (pc := 39) 0 dX6_append_39 rfl rfl ?_
        refine vv_aload_n (mi := mX6_append) (pc := 40) 1 dX6_append_40 rfl rfl ?_
        obtain ⟨ht25, h⟩ := h
        refine vv_getI (mi := mX6_append) (pc := 41) 6 1 rfl ht25 fl_X6_17 (Nat.le_of_ble_eq_true rfl) dX6_append_41 ?_
        obtain ⟨ht26, h⟩ := h
        refine vv_callV (mi := mX6_append) (pc := 44) (rest := []) (As := [.inl (ddI M23 this 1)]) (ctX2_noteClash (X := X) h) dX6_append_44 c19 ht26 (Nat.le_of_ble_eq_true rfl) rfl mb_X2_noteClash rfl ml_X6_43 im_X2_noteClash se_X2_noteClash ⟨(Nat.le_of_ble_eq_true rfl), (Nat.le_of_ble_eq_true rfl)⟩ ⟨(Nat.le_of_ble_eq_true rfl), (Nat.le_of_ble_eq_true rfl)⟩ (Nat.le_of_ble_eq_true rfl) rfl (kV_ (F := fun st M' => VV X mX6_append rX6_append (pI_ post) 47 [(3, .inr (.inr r17)), (0, .inr (.inr (some this))), (1, .inr (.inr x1)), (2, .inl x2)] st M' 0 0) (fun M28 h => ?_))
        refine vv_iinc (mi := mX6_append) (pc := 47) (x2 + 1) 3 [(2, .inl (x2 + 1)), (3, .inr (.inr r17)), (0, .inr (.inr (some this))), (1, .inr (.inr x1))] dX6_append_47 rfl rfl (Nat.le_of_ble_eq_true rfl) rfl ?_
        refine vv_goto (mi := mX6_append) (pc := 50) 13 dX6_append_50 rfl ?_
        refine vv_sub (mi := mX6_append) [(0, .inr (.inr (some this))), (1, .inr (.inr x1)), (2, .inl (x2 + 1))] [2, 3, 0] rfl ?_
        exact hb13 _ _ _ _ h
theorem loX6_append_13 {X : Cx_}  {post : Int32 → Mm → Prop}  : ∀ (fu : Nat) {this : Nat} {x1 : Option Nat} {x2 : Int32} {M : Mm}, DX6_append_13  post fu this x1 x2 M → VV X mX6_append rX6_append (pI_ post) 13 [(0, .inr (.inr (some this))), (1, .inr (.inr x1)), (2, .inl x2)] [] M 0 0
  | 0, _, _, _, _, h => False.elim h
  | fu + 1, _, _, _, _, h => bX6_append_13 (fun this x1 x2 M h => loX6_append_13  fu h) h
set_option maxHeartbeats 4000000 in
set_option maxRecDepth 100000 in
theorem ctX6_append {X : Cx_} {this : Nat} {a1 : Option Nat} {M : Mm} {post : Int32 → Mm → Prop} (h : PX6_append this a1 M post) : CT X mX6_append rX6_append [.inr (.inr (some this)), .inr (.inr a1)] M (pI_ post) := by
  unfold PX6_append at h
  refine CT.of (by decide +kernel) (Nat.le_of_ble_eq_true rfl) ?_
  show VV X mX6_append rX6_append (pI_ post) 0 [(0, .inr (.inr (some this))), (1, .inr (.inr a1))] [] M 0 0
  refine vv_aload_n (mi := mX6_append) (pc := 0) 0 dX6_append_0 rfl rfl ?_
  refine vv_iconst (mi := mX6_append) (pc := 1) 1 dX6_append_1 rfl ?_
  obtain ⟨ht1, h⟩ := h
  refine vv_callV (mi := mX6_append) (pc := 2) (rest := []) (As := [.inl 1]) (ctX6_hasRoomFor (X := X) h) dX6_append_2 rfl ht1 (Nat.le_of_ble_eq_true rfl) rfl mb_X6_hasRoomFor rfl ml_X6_35 im_X6_hasRoomFor se_X6_hasRoomFor ⟨(Nat.le_of_ble_eq_true rfl), (Nat.le_of_ble_eq_true rfl)⟩ ⟨(Nat.le_of_ble_eq_true rfl), (Nat.le_of_ble_eq_true rfl)⟩ (Nat.le_of_ble_eq_true rfl) rfl (kI_ (F := fun st M' => VV X mX6_append rX6_append (pI_ post) 5 [(0, .inr (.inr (some this))), (1, .inr (.inr a1))] st M' 0 0) (fun r2 M3 h => ?_))
  refine vv_if_ne (mi := mX6_append) (pc := 5) 11 dX6_append_5 rfl (fun c4 => ?_) (fun c4 => ?_)
  · replace h := h.1 c4
    refine vv_iconst (mi := mX6_append) (pc := 11) 0 dX6_append_11 rfl ?_
    refine vv_istore_n (mi := mX6_append) (pc := 12) [(2, .inl 0), (0, .inr (.inr (some this))), (1, .inr (.inr a1))] dX6_append_12 rfl (Nat.le_of_ble_eq_true rfl) rfl ?_
    refine vv_sub (mi := mX6_append) [(0, .inr (.inr (some this))), (1, .inr (.inr a1)), (2, .inl 0)] [1, 2, 0] rfl ?_
    obtain ⟨fu, h⟩ := h
    exact loX6_append_13 (X := X)  fu h
  · replace h := h.2 c4
    refine vv_bipush (mi := mX6_append) (pc := 8) (-3) dX6_append_8 rfl ?_
    exact vv_iret (mi := mX6_append) (pc := 10) dX6_append_10 rfl (Nat.le_of_ble_eq_true rfl) (Nat.le_of_ble_eq_true rfl) h
set_option maxHeartbeats 4000000 in
set_option maxRecDepth 100000 in
theorem ctX6_appendFrom {X : Cx_} {this : Nat} {a1 : Option Nat} {a2 : Option Nat} {a3 : Int32} {M : Mm} {post : Mm → Prop} (h : PX6_appendFrom this a1 a2 a3 M post) : CT X mX6_appendFrom rX6_appendFrom [.inr (.inr (some this)), .inr (.inr a1), .inr (.inr a2), .inl a3] M (pV_ post) := by
  unfold PX6_appendFrom at h
  refine CT.of (by decide +kernel) (Nat.le_of_ble_eq_true rfl) ?_
  show VV X mX6_appendFrom rX6_appendFrom (pV_ post) 0 [(0, .inr (.inr (some this))), (1, .inr (.inr a1)), (2, .inr (.inr a2)), (3, .inl a3)] [] M 0 0
  refine vv_aload_n (mi := mX6_appendFrom) (pc := 0) 2 dX6_appendFrom_0 rfl rfl ?_
  refine vv_aload_n (mi := mX6_appendFrom) (pc := 1) 1 dX6_appendFrom_1 rfl rfl ?_
  obtain ⟨aq1, hs2, h⟩ := h
  obtain ⟨ht3, h⟩ := h
  refine vv_getI (mi := mX6_appendFrom) (pc := 2) 2 9 hs2 ht3 fl_X6_47 (Nat.le_of_ble_eq_true rfl) dX6_appendFrom_2 ?_
  obtain ⟨aq4, hs5, h⟩ := h
  obtain ⟨ht6, h⟩ := h
  obtain ⟨M7, eM7⟩ : ∃ z : Mm, z = suI M aq4 11 (ddI M aq1 9) := ⟨_, rfl⟩
  replace h := h _ eM7
  refine vv_putI (mi := mX6_appendFrom) (pc := 5) 2 11 hs5 ht6 fq_X6_97 (fun q => by cases q) rfl (Nat.le_of_ble_eq_true rfl) dX6_appendFrom_5 eM7 ?_
  refine vv_aload_n (mi := mX6_appendFrom) (pc := 8) 2 dX6_appendFrom_8 rfl rfl ?_
  refine vv_iload_n (mi := mX6_appendFrom) (pc := 9) 3 dX6_appendFrom_9 rfl rfl ?_
  obtain ⟨M8, eM8⟩ : ∃ z : Mm, z = suI M7 aq4 10 a3 := ⟨_, rfl⟩
  replace h := h _ eM8
  refine vv_putI (mi := mX6_appendFrom) (pc := 10) 2 10 hs5 (tgI_ eM7 ht6) fq_X6_75 (fun q => by cases q) rfl (Nat.le_of_ble_eq_true rfl) dX6_appendFrom_10 eM8 ?_
  refine vv_aload_n (mi := mX6_appendFrom) (pc := 13) 0 dX6_appendFrom_13 rfl rfl ?_
  refine vv_aload_n (mi := mX6_appendFrom) (pc := 14) 2 dX6_appendFrom_14 rfl rfl ?_
  obtain ⟨ht9, h⟩ := h
  refine vv_callV (mi := mX6_appendFrom) (pc := 15) (rest := []) (As := [.inr (.inr a2)]) (ctX6_append (X := X) h) dX6_appendFrom_15 rfl ht9 (Nat.le_of_ble_eq_true rfl) rfl mb_X6_append rfl ml_X6_100 im_X6_append se_X6_append ⟨(Nat.le_of_ble_eq_true rfl), (Nat.le_of_ble_eq_true rfl)⟩ ⟨(Nat.le_of_ble_eq_true rfl), (Nat.le_of_ble_eq_true rfl)⟩ (Nat.le_of_ble_eq_true rfl) rfl (kI_ (F := fun st M' => VV X mX6_appendFrom rX6_appendFrom (pV_ post) 18 [(0, .inr (.inr (some this))), (1, .inr (.inr a1)), (2, .inr (.inr a2)), (3, .inl a3)] st M' 0 0) (fun r10 M11 h => ?_))
  refine vv_pop (mi := mX6_appendFrom) (pc := 18) dX6_appendFrom_18 rfl ?_
  exact vv_vret (mi := mX6_appendFrom) (pc := 19) dX6_appendFrom_19 rfl (Nat.le_of_ble_eq_true rfl) (Nat.le_of_ble_eq_true rfl) h
set_option maxHeartbeats 4000000 in
set_option maxRecDepth 100000 in
theorem bX6_change_105 {X : Cx_}  {post : Int32 → Mm → Prop}  {this : Nat} {x1 : Option Nat} {x2 : Option Nat} {x3 : Int32} {x6 : Int32} {M : Mm} (h : BX6_change_105  post this x1 x2 x3 x6 M) : VV X mX6_change rX6_change (pI_ post) 105 [(0, .inr (.inr (some this))), (1, .inr (.inr x1)), (2, .inr (.inr x2)), (3, .inl x3), (6, .inl x6)] [] M 2 26 := by
  unfold BX6_change_105 at h
  refine vv_aload_n (mi := mX6_change) (pc := 105) 0 dX6_change_105 rfl rfl ?_
  refine vv_aload_n (mi := mX6_change) (pc := 106) 1 dX6_change_106 rfl rfl ?_
  refine vv_aload_n (mi := mX6_change) (pc := 107) 2 dX6_change_107 rfl rfl ?_
  refine vv_aload_n (mi := mX6_change) (pc := 108) 1 dX6_change_108 rfl rfl ?_
  obtain ⟨aq33, hs34, h⟩ := h
  obtain ⟨ht35, h⟩ := h
  refine vv_getI (mi := mX6_change) (pc := 109) 2 10 hs34 ht35 fl_X6_75 (Nat.le_of_ble_eq_true rfl) dX6_change_109 ?_
  obtain ⟨ht36, h⟩ := h
  refine vv_callV (mi := mX6_change) (pc := 112) (rest := []) (As := [.inr (.inr x1), .inr (.inr x2), .inl (ddI M aq33 10)]) (ctX6_appendFrom (X := X) h) dX6_change_112 rfl ht36 (Nat.le_of_ble_eq_true rfl) rfl mb_X6_appendFrom rfl ml_X6_78 im_X6_appendFrom se_X6_appendFrom ⟨(Nat.le_of_ble_eq_true rfl), (Nat.le_of_ble_eq_true rfl)⟩ ⟨(Nat.le_of_ble_eq_true rfl), (Nat.le_of_ble_eq_true rfl)⟩ (Nat.le_of_ble_eq_true rfl) rfl (kV_ (F := fun st M' => VV X mX6_change rX6_change (pI_ post) 115 [(0, .inr (.inr (some this))), (1, .inr (.inr x1)), (2, .inr (.inr x2)), (3, .inl x3), (6, .inl x6)] st M' 2 26) (fun M38 h => ?_))
  refine vv_iload_n (mi := mX6_change) (pc := 115) 3 dX6_change_115 rfl rfl ?_
  refine vv_if_le (mi := mX6_change) (pc := 116) 190 dX6_change_116 rfl (fun c39 => ?_) (fun c39 => ?_)
  · replace h := h.1 c39
    refine vv_aload_n (mi := mX6_change) (pc := 190) 1 dX6_change_190 rfl rfl ?_
    refine vv_aload_n (mi := mX6_change) (pc := 191) 2 dX6_change_191 rfl rfl ?_
    obtain ⟨ht40, h⟩ := h
    obtain ⟨M41, eM41⟩ : ∃ z : Mm, z = suR M38 aq33 13 x2 := ⟨_, rfl⟩
    replace h := h _ eM41
    refine vv_putR (mi := mX6_change) (pc := 192) 2 13 (.object "DialDesk$Entry") rfl hs34 ht40 fq_X6_91 (fun q => by cases q) rfl (Nat.le_of_ble_eq_true rfl) dX6_change_192 eM41 ?_
    refine vv_aload_n (mi := mX6_change) (pc := 195) 1 dX6_change_195 rfl rfl ?_
    refine vv_iload (mi := mX6_change) (pc := 196) 4 dX6_change_196 rfl ?_
    obtain ⟨M42, eM42⟩ : ∃ z : Mm, z = suI M41 aq33 12 x6 := ⟨_, rfl⟩
    replace h := h _ eM42
    refine vv_putI (mi := mX6_change) (pc := 198) 2 12 hs34 (tgR_ eM41 ht40) fq_X6_94 (fun q => by cases q) rfl (Nat.le_of_ble_eq_true rfl) dX6_change_198 eM42 ?_
    refine vv_aload_n (mi := mX6_change) (pc := 201) 1 dX6_change_201 rfl rfl ?_
    refine vv_iload (mi := mX6_change) (pc := 202) 4 dX6_change_202 rfl ?_
    obtain ⟨M43, eM43⟩ : ∃ z : Mm, z = suI M42 aq33 10 x6 := ⟨_, rfl⟩
    replace h := h _ eM43
    refine vv_putI (mi := mX6_change) (pc := 204) 2 10 hs34 (tgI_ eM42 (tgR_ eM41 ht40)) fq_X6_75 (fun q => by cases q) rfl (Nat.le_of_ble_eq_true rfl) dX6_change_204 eM43 ?_
    refine vv_aload_n (mi := mX6_change) (pc := 207) 2 dX6_change_207 rfl rfl ?_
    obtain ⟨aq44, hs45, h⟩ := h
    obtain ⟨ht46, h⟩ := h
    refine vv_getI (mi := mX6_change) (pc := 208) 2 9 hs45 ht46 fl_X6_47 (Nat.le_of_ble_eq_true rfl) dX6_change_208 ?_
    exact vv_iret (mi := mX6_change) (pc := 211) dX6_change_211 rfl (Nat.le_of_ble_eq_true rfl) (Nat.le_of_ble_eq_true rfl) h
  · replace h := h.2 c39
    obtain ⟨n47, en47⟩ : ∃ z : Nat, z = ddZ M38 := ⟨_, rfl⟩
    replace h := h _ en47
    obtain ⟨M48, eM48⟩ : ∃ z : Mm, z = suN M38 3 0 := ⟨_, rfl⟩
    replace h := h _ eM48
    refine vv_new (mi := mX6_change) (pc := 119) 2 (r := (RX2, TX2, 18)) rfl (Nat.le_of_ble_eq_true rfl) rfl nw_2 cl_X6_9 it_2 iz_2 (Nat.le_of_ble_eq_true rfl) (Nat.le_of_ble_eq_true rfl) dX6_change_119 en47 eM48 ?_
    refine vv_dup (mi := mX6_change) (pc := 122) dX6_change_122 rfl ?_
    refine vv_iconst (mi := mX6_change) (pc := 123) 3 dX6_change_123 rfl ?_
    refine vv_aload_n (mi := mX6_change) (pc := 124) 2 dX6_change_124 rfl rfl ?_
    obtain ⟨aq49, hs50, h⟩ := h
    obtain ⟨ht51, h⟩ := h
    refine vv_getI (mi := mX6_change) (pc := 125) 2 9 hs50 ht51 fl_X6_47 (Nat.le_of_ble_eq_true rfl) dX6_change_125 ?_
    refine vv_aload_n (mi := mX6_change) (pc := 128) 1 dX6_change_128 rfl rfl ?_
    obtain ⟨ht52, h⟩ := h
    refine vv_getI (mi := mX6_change) (pc := 129) 2 2 hs34 ht52 fl_X6_59 (Nat.le_of_ble_eq_true rfl) dX6_change_129 ?_
    refine vv_aload_n (mi := mX6_change) (pc := 132) 2 dX6_change_132 rfl rfl ?_
    refine vv_getI (mi := mX6_change) (pc := 133) 2 4 hs50 ht51 fl_X6_50 (Nat.le_of_ble_eq_true rfl) dX6_change_133 ?_
    refine vv_aload_n (mi := mX6_change) (pc := 136) 1 dX6_change_136 rfl rfl ?_
    refine vv_getI (mi := mX6_change) (pc := 137) 2 5 hs34 ht52 fl_X6_62 (Nat.le_of_ble_eq_true rfl) dX6_change_137 ?_
    refine vv_aload_n (mi := mX6_change) (pc := 140) 1 dX6_change_140 rfl rfl ?_
    refine vv_getI (mi := mX6_change) (pc := 141) 2 6 hs34 ht52 fl_X6_65 (Nat.le_of_ble_eq_true rfl) dX6_change_141 ?_
    refine vv_iload (mi := mX6_change) (pc := 144) 4 dX6_change_144 rfl ?_
    refine vv_callI (mi := mX6_change) (pc := 146) (rest := [.inr (.inr (some n47))]) (As := [.inl 3, .inl (ddI M48 aq49 9), .inl (ddI M48 aq33 2), .inl (ddI M48 aq49 4), .inl (ddI M48 aq33 5), .inl (ddI M48 aq33 6), .inl x6]) (ctX2_init (X := X) h) dX6_change_146 rfl rfl rfl mb_X2_init rfl ml_X6_68 im_X2_init ⟨(Nat.le_of_ble_eq_true rfl), (Nat.le_of_ble_eq_true rfl)⟩ ⟨(Nat.le_of_ble_eq_true rfl), (Nat.le_of_ble_eq_true rfl)⟩ (Nat.le_of_ble_eq_true rfl) rfl (kV_ (F := fun st M' => VV X mX6_change rX6_change (pI_ post) 149 [(0, .inr (.inr (some this))), (1, .inr (.inr x1)), (2, .inr (.inr x2)), (3, .inl x3), (6, .inl x6)] st M' 4 52) (fun M54 h => ?_))
    refine vv_astore (mi := mX6_change) (pc := 149) [(7, .inr (.inr (some n47))), (0, .inr (.inr (some this))), (1, .inr (.inr x1)), (2, .inr (.inr x2)), (3, .inl x3), (6, .inl x6)] dX6_change_149 (Nat.le_of_ble_eq_true rfl) rfl ?_
    refine vv_aload (mi := mX6_change) (pc := 151) 0 dX6_change_151 rfl ?_
    refine vv_aload_n (mi := mX6_change) (pc := 153) 3 dX6_change_153 rfl rfl ?_
    obtain ⟨ht55, h⟩ := h
    obtain ⟨M56, eM56⟩ : ∃ z : Mm, z = suR M54 n47 15 x2 := ⟨_, rfl⟩
    replace h := h _ eM56
    refine vv_putR (mi := mX6_change) (pc := 154) 2 15 (.object "DialDesk$Entry") rfl rfl ht55 fq_X6_82 (fun q => by cases q) rfl (Nat.le_of_ble_eq_true rfl) dX6_change_154 eM56 ?_
    refine vv_aload_n (mi := mX6_change) (pc := 157) 1 dX6_change_157 rfl rfl ?_
    refine vv_aload_n (mi := mX6_change) (pc := 158) 2 dX6_change_158 rfl rfl ?_
    refine vv_aload (mi := mX6_change) (pc := 159) 0 dX6_change_159 rfl ?_
    refine vv_aload_n (mi := mX6_change) (pc := 161) 2 dX6_change_161 rfl rfl ?_
    obtain ⟨ht57, h⟩ := h
    refine vv_getI (mi := mX6_change) (pc := 162) 2 10 hs34 ht57 fl_X6_75 (Nat.le_of_ble_eq_true rfl) dX6_change_162 ?_
    refine vv_iconst (mi := mX6_change) (pc := 165) (-1) dX6_change_165 rfl ?_
    refine vv_icmp_ne (mi := mX6_change) (pc := 166) 176 dX6_change_166 rfl (fun c58 => ?_) (fun c58 => ?_)
    · replace h := h.1 c58
      refine vv_iload (mi := mX6_change) (pc := 176) 5 dX6_change_176 rfl ?_
      refine vv_iload_n (mi := mX6_change) (pc := 178) 4 dX6_change_178 rfl rfl ?_
      refine vv_iadd (mi := mX6_change) (pc := 179) dX6_change_179 ?_
      refine vv_aload_n (mi := mX6_change) (pc := 180) 2 dX6_change_180 rfl rfl ?_
      refine vv_getI (mi := mX6_change) (pc := 181) 2 10 hs34 ht57 fl_X6_75 (Nat.le_of_ble_eq_true rfl) dX6_change_181 ?_
      refine vv_callS (mi := mX6_change) (pc := 184) (rest := [.inr (.inr (some n47)), .inr (.inr x1), .inr (.inr (some this))]) (As := [.inl (x6 + x3), .inl (ddI M56 aq33 10)]) (ctJ9_min_7cf53 (X := X) h) dX6_change_184 mb_J9_min_7cf53 rfl ml_X6_85 sc_J9_min_7cf53 ⟨(Nat.le_of_ble_eq_true rfl), (Nat.le_of_ble_eq_true rfl)⟩ ⟨(Nat.le_of_ble_eq_true rfl), (Nat.le_of_ble_eq_true rfl)⟩ (Nat.le_of_ble_eq_true rfl) rfl (kI_ (F := fun st M' => VV X mX6_change rX6_change (pI_ post) 187 [(7, .inr (.inr (some n47))), (0, .inr (.inr (some this))), (1, .inr (.inr x1)), (2, .inr (.inr x2)), (3, .inl x3), (6, .inl x6)] st M' 4 52) (fun r59 M60 h => ?_))
      obtain ⟨ht61, h⟩ := h
      refine vv_callV (mi := mX6_change) (pc := 187) (rest := []) (As := [.inr (.inr x1), .inr (.inr (some n47)), .inl r59]) (ctX6_appendFrom (X := X) h) dX6_change_187 rfl ht61 (Nat.le_of_ble_eq_true rfl) rfl mb_X6_appendFrom rfl ml_X6_78 im_X6_appendFrom se_X6_appendFrom ⟨(Nat.le_of_ble_eq_true rfl), (Nat.le_of_ble_eq_true rfl)⟩ ⟨(Nat.le_of_ble_eq_true rfl), (Nat.le_of_ble_eq_true rfl)⟩ (Nat.le_of_ble_eq_true rfl) rfl (kV_ (F := fun st M' => VV X mX6_change rX6_change (pI_ post) 190 [(7, .inr (.inr (some n47))), (0, .inr (.inr (some this))), (1, .inr (.inr x1)), (2, .inr (.inr x2)), (3, .inl x3), (6, .inl x6)] st M' 4 52) (fun M63 h => ?_))
      refine vv_aload_n (mi := mX6_change) (pc := 190) 2 dX6_change_190 rfl rfl ?_
      refine vv_aload_n (mi := mX6_change) (pc := 191) 3 dX6_change_191 rfl rfl ?_
      obtain ⟨ht64, h⟩ := h
      obtain ⟨M65, eM65⟩ : ∃ z : Mm, z = suR M63 aq33 13 x2 := ⟨_, rfl⟩
      replace h := h _ eM65
      refine vv_putR (mi := mX6_change) (pc := 192) 2 13 (.object "DialDesk$Entry") rfl hs34 ht64 fq_X6_91 (fun q => by cases q) rfl (Nat.le_of_ble_eq_true rfl) dX6_change_192 eM65 ?_
      refine vv_aload_n (mi := mX6_change) (pc := 195) 2 dX6_change_195 rfl rfl ?_
      refine vv_iload (mi := mX6_change) (pc := 196) 5 dX6_change_196 rfl ?_
      obtain ⟨M66, eM66⟩ : ∃ z : Mm, z = suI M65 aq33 12 x6 := ⟨_, rfl⟩
      replace h := h _ eM66
      refine vv_putI (mi := mX6_change) (pc := 198) 2 12 hs34 (tgR_ eM65 ht64) fq_X6_94 (fun q => by cases q) rfl (Nat.le_of_ble_eq_true rfl) dX6_change_198 eM66 ?_
      refine vv_aload_n (mi := mX6_change) (pc := 201) 2 dX6_change_201 rfl rfl ?_
      refine vv_iload (mi := mX6_change) (pc := 202) 5 dX6_change_202 rfl ?_
      obtain ⟨M67, eM67⟩ : ∃ z : Mm, z = suI M66 aq33 10 x6 := ⟨_, rfl⟩
      replace h := h _ eM67
      refine vv_putI (mi := mX6_change) (pc := 204) 2 10 hs34 (tgI_ eM66 (tgR_ eM65 ht64)) fq_X6_75 (fun q => by cases q) rfl (Nat.le_of_ble_eq_true rfl) dX6_change_204 eM67 ?_
      refine vv_aload_n (mi := mX6_change) (pc := 207) 3 dX6_change_207 rfl rfl ?_
      obtain ⟨ht68, h⟩ := h
      refine vv_getI (mi := mX6_change) (pc := 208) 2 9 hs50 ht68 fl_X6_47 (Nat.le_of_ble_eq_true rfl) dX6_change_208 ?_
      exact vv_iret (mi := mX6_change) (pc := 211) dX6_change_211 rfl (Nat.le_of_ble_eq_true rfl) (Nat.le_of_ble_eq_true rfl) h
    · replace h := h.2 c58
      refine vv_iload (mi := mX6_change) (pc := 169) 5 dX6_change_169 rfl ?_
      refine vv_iload_n (mi := mX6_change) (pc := 171) 4 dX6_change_171 rfl rfl ?_
      refine vv_iadd (mi := mX6_change) (pc := 172) dX6_change_172 ?_
      refine vv_goto (mi := mX6_change) (pc := 173) 187 dX6_change_173 rfl ?_
      obtain ⟨ht69, h⟩ := h
      refine vv_callV (mi := mX6_change) (pc := 187) (rest := []) (As := [.inr (.inr x1), .inr (.inr (some n47)), .inl (x6 + x3)]) (ctX6_appendFrom (X := X) h) dX6_change_187 rfl ht69 (Nat.le_of_ble_eq_true rfl) rfl mb_X6_appendFrom rfl ml_X6_78 im_X6_appendFrom se_X6_appendFrom ⟨(Nat.le_of_ble_eq_true rfl), (Nat.le_of_ble_eq_true rfl)⟩ ⟨(Nat.le_of_ble_eq_true rfl), (Nat.le_of_ble_eq_true rfl)⟩ (Nat.le_of_ble_eq_true rfl) rfl (kV_ (F := fun st M' => VV X mX6_change rX6_change (pI_ post) 190 [(7, .inr (.inr (some n47))), (0, .inr (.inr (some this))), (1, .inr (.inr x1)), (2, .inr (.inr x2)), (3, .inl x3), (6, .inl x6)] st M' 4 52) (fun M71 h => ?_))
      refine vv_aload_n (mi := mX6_change) (pc := 190) 2 dX6_change_190 rfl rfl ?_
      refine vv_aload_n (mi := mX6_change) (pc := 191) 3 dX6_change_191 rfl rfl ?_
      obtain ⟨ht72, h⟩ := h
      obtain ⟨M73, eM73⟩ : ∃ z : Mm, z = suR M71 aq33 13 x2 := ⟨_, rfl⟩
      replace h := h _ eM73
      refine vv_putR (mi := mX6_change) (pc := 192) 2 13 (.object "DialDesk$Entry") rfl hs34 ht72 fq_X6_91 (fun q => by cases q) rfl (Nat.le_of_ble_eq_true rfl) dX6_change_192 eM73 ?_
      refine vv_aload_n (mi := mX6_change) (pc := 195) 2 dX6_change_195 rfl rfl ?_
      refine vv_iload (mi := mX6_change) (pc := 196) 5 dX6_change_196 rfl ?_
      obtain ⟨M74, eM74⟩ : ∃ z : Mm, z = suI M73 aq33 12 x6 := ⟨_, rfl⟩
      replace h := h _ eM74
      refine vv_putI (mi := mX6_change) (pc := 198) 2 12 hs34 (tgR_ eM73 ht72) fq_X6_94 (fun q => by cases q) rfl (Nat.le_of_ble_eq_true rfl) dX6_change_198 eM74 ?_
      refine vv_aload_n (mi := mX6_change) (pc := 201) 2 dX6_change_201 rfl rfl ?_
      refine vv_iload (mi := mX6_change) (pc := 202) 5 dX6_change_202 rfl ?_
      obtain ⟨M75, eM75⟩ : ∃ z : Mm, z = suI M74 aq33 10 x6 := ⟨_, rfl⟩
      replace h := h _ eM75
      refine vv_putI (mi := mX6_change) (pc := 204) 2 10 hs34 (tgI_ eM74 (tgR_ eM73 ht72)) fq_X6_75 (fun q => by cases q) rfl (Nat.le_of_ble_eq_true rfl) dX6_change_204 eM75 ?_
      refine vv_aload_n (mi := mX6_change) (pc := 207) 3 dX6_change_207 rfl rfl ?_
      obtain ⟨ht76, h⟩ := h
      refine vv_getI (mi := mX6_change) (pc := 208) 2 9 hs50 ht76 fl_X6_47 (Nat.le_of_ble_eq_true rfl) dX6_change_208 ?_
      exact vv_iret (mi := mX6_change) (pc := 211) dX6_change_211 rfl (Nat.le_of_ble_eq_true rfl) (Nat.le_of_ble_eq_true rfl) h
set_option maxHeartbeats 4000000 in
set_option maxRecDepth 100000 in
theorem bX6_change_34 {X : Cx_}  {post : Int32 → Mm → Prop}  {this : Nat} {x1 : Option Nat} {x2 : Option Nat} {x3 : Int32} {x4 : Int32} {s0 : Int32} {s1 : Int32} {M : Mm} (h : BX6_change_34  post this x1 x2 x3 x4 s0 s1 M) : VV X mX6_change rX6_change (pI_ post) 34 [(0, .inr (.inr (some this))), (1, .inr (.inr x1)), (2, .inr (.inr x2)), (3, .inl x3), (4, .inl x4)] [.inl s1, .inl s0] M 0 0 := by
  unfold BX6_change_34 at h
  refine vv_iadd (mi := mX6_change) (pc := 34) dX6_change_34 ?_
  obtain ⟨v11, ev11⟩ : ∃ z : Int32, z = (s0 + s1) := ⟨_, rfl⟩
  refine vv_namI ev11 ?_
  replace h := h _ ev11
  refine vv_istore (mi := mX6_change) (pc := 35) [(5, .inl v11), (0, .inr (.inr (some this))), (1, .inr (.inr x1)), (2, .inr (.inr x2)), (3, .inl x3), (4, .inl x4)] dX6_change_35 (Nat.le_of_ble_eq_true rfl) rfl ?_
  refine vv_aload_n (mi := mX6_change) (pc := 37) 1 dX6_change_37 rfl rfl ?_
  refine vv_iload (mi := mX6_change) (pc := 38) 0 dX6_change_38 rfl ?_
  obtain ⟨ht12, h⟩ := h
  refine vv_callV (mi := mX6_change) (pc := 40) (rest := []) (As := [.inl v11]) (ctX6_hasRoomFor (X := X) h) dX6_change_40 rfl ht12 (Nat.le_of_ble_eq_true rfl) rfl mb_X6_hasRoomFor rfl ml_X6_35 im_X6_hasRoomFor se_X6_hasRoomFor ⟨(Nat.le_of_ble_eq_true rfl), (Nat.le_of_ble_eq_true rfl)⟩ ⟨(Nat.le_of_ble_eq_true rfl), (Nat.le_of_ble_eq_true rfl)⟩ (Nat.le_of_ble_eq_true rfl) rfl (kI_ (F := fun st M' => VV X mX6_change rX6_change (pI_ post) 43 [(5, .inl v11), (0, .inr (.inr (some this))), (1, .inr (.inr x1)), (2, .inr (.inr x2)), (3, .inl x3), (4, .inl x4)] st M' 0 0) (fun r13 M14 h => ?_))
  refine vv_if_ne (mi := mX6_change) (pc := 43) 49 dX6_change_43 rfl (fun c15 => ?_) (fun c15 => ?_)
  · replace h := h.1 c15
    refine vv_aload_n (mi := mX6_change) (pc := 49) 3 dX6_change_49 rfl rfl ?_
    obtain ⟨aq16, hs17, h⟩ := h
    obtain ⟨ht18, h⟩ := h
    refine vv_getI (mi := mX6_change) (pc := 50) 2 7 hs17 ht18 fl_X6_53 (Nat.le_of_ble_eq_true rfl) dX6_change_50 ?_
    obtain ⟨v19, ev19⟩ : ∃ z : Int32, z = (ddI M14 aq16 7) := ⟨_, rfl⟩
    refine vv_namI ev19 ?_
    replace h := h _ ev19
    refine vv_istore (mi := mX6_change) (pc := 53) [(6, .inl v19), (5, .inl v11), (0, .inr (.inr (some this))), (1, .inr (.inr x1)), (2, .inr (.inr x2)), (3, .inl x3), (4, .inl x4)] dX6_change_53 (Nat.le_of_ble_eq_true rfl) rfl ?_
    refine vv_iload (mi := mX6_change) (pc := 55) 6 dX6_change_55 rfl ?_
    refine vv_if_eq (mi := mX6_change) (pc := 57) 105 dX6_change_57 rfl (fun c20 => ?_) (fun c20 => ?_)
    · replace h := h.1 c20
      refine vv_sub (mi := mX6_change) [(0, .inr (.inr (some this))), (1, .inr (.inr x1)), (2, .inr (.inr x2)), (3, .inl x3), (6, .inl v19)] [2, 3, 4, 5, 0] rfl ?_
      refine vv_widen 2 26 (Nat.le_of_ble_eq_true rfl) (Nat.le_of_ble_eq_true rfl) ?_
      exact bX6_change_105 (X := X)  h
    · replace h := h.2 c20
      refine vv_aload_n (mi := mX6_change) (pc := 60) 3 dX6_change_60 rfl rfl ?_
      obtain ⟨n21, en21⟩ : ∃ z : Nat, z = ddZ M14 := ⟨_, rfl⟩
      replace h := h _ en21
      obtain ⟨M22, eM22⟩ : ∃ z : Mm, z = suN M14 3 0 := ⟨_, rfl⟩
      replace h := h _ eM22
      refine vv_new (mi := mX6_change) (pc := 61) 2 (r := (RX2, TX2, 18)) rfl (Nat.le_of_ble_eq_true rfl) rfl nw_2 cl_X6_9 it_2 iz_2 (Nat.le_of_ble_eq_true rfl) (Nat.le_of_ble_eq_true rfl) dX6_change_61 en21 eM22 ?_
      refine vv_dup (mi := mX6_change) (pc := 64) dX6_change_64 rfl ?_
      refine vv_iconst (mi := mX6_change) (pc := 65) 0 dX6_change_65 rfl ?_
      refine vv_aload_n (mi := mX6_change) (pc := 66) 3 dX6_change_66 rfl rfl ?_
      obtain ⟨aq23, hs24, h⟩ := h
      obtain ⟨ht25, h⟩ := h
      refine vv_getI (mi := mX6_change) (pc := 67) 2 1 hs24 ht25 fl_X6_56 (Nat.le_of_ble_eq_true rfl) dX6_change_67 ?_
      refine vv_aload_n (mi := mX6_change) (pc := 70) 3 dX6_change_70 rfl rfl ?_
      refine vv_getI (mi := mX6_change) (pc := 71) 2 2 hs24 ht25 fl_X6_59 (Nat.le_of_ble_eq_true rfl) dX6_change_71 ?_
      refine vv_iload (mi := mX6_change) (pc := 74) 6 dX6_change_74 rfl ?_
      refine vv_aload_n (mi := mX6_change) (pc := 76) 3 dX6_change_76 rfl rfl ?_
      refine vv_getI (mi := mX6_change) (pc := 77) 2 5 hs24 ht25 fl_X6_62 (Nat.le_of_ble_eq_true rfl) dX6_change_77 ?_
      refine vv_aload_n (mi := mX6_change) (pc := 80) 3 dX6_change_80 rfl rfl ?_
      refine vv_getI (mi := mX6_change) (pc := 81) 2 6 hs24 ht25 fl_X6_65 (Nat.le_of_ble_eq_true rfl) dX6_change_81 ?_
      refine vv_iload (mi := mX6_change) (pc := 84) 0 dX6_change_84 rfl ?_
      refine vv_callI (mi := mX6_change) (pc := 86) (rest := [.inr (.inr (some n21)), .inr (.inr x1)]) (As := [.inl 0, .inl (ddI M22 aq23 1), .inl (ddI M22 aq23 2), .inl x4, .inl (ddI M22 aq23 5), .inl (ddI M22 aq23 6), .inl v19]) (ctX2_init (X := X) h) dX6_change_86 rfl rfl rfl mb_X2_init rfl ml_X6_68 im_X2_init ⟨(Nat.le_of_ble_eq_true rfl), (Nat.le_of_ble_eq_true rfl)⟩ ⟨(Nat.le_of_ble_eq_true rfl), (Nat.le_of_ble_eq_true rfl)⟩ (Nat.le_of_ble_eq_true rfl) rfl (kV_ (F := fun st M' => VV X mX6_change rX6_change (pI_ post) 89 [(6, .inl v19), (5, .inl v11), (0, .inr (.inr (some this))), (1, .inr (.inr x1)), (2, .inr (.inr x2)), (3, .inl x3), (4, .inl x4)] st M' 2 26) (fun M27 h => ?_))
      obtain ⟨ht28, h⟩ := h
      obtain ⟨M29, eM29⟩ : ∃ z : Mm, z = suR M27 aq23 14 (some n21) := ⟨_, rfl⟩
      replace h := h _ eM29
      refine vv_putR (mi := mX6_change) (pc := 89) 2 14 (.object "DialDesk$Entry") rfl hs24 ht28 fq_X6_71 (fun q => by cases q) rfl (Nat.le_of_ble_eq_true rfl) dX6_change_89 eM29 ?_
      refine vv_aload_n (mi := mX6_change) (pc := 92) 2 dX6_change_92 rfl rfl ?_
      refine vv_aload_n (mi := mX6_change) (pc := 93) 3 dX6_change_93 rfl rfl ?_
      refine vv_aload_n (mi := mX6_change) (pc := 94) 3 dX6_change_94 rfl rfl ?_
      refine vv_getR (mi := mX6_change) (pc := 95) 2 14 hs24 (tgR_ eM29 ht28) fl_X6_71 (Nat.le_of_ble_eq_true rfl) dX6_change_95 ?_
      refine vv_aload_n (mi := mX6_change) (pc := 98) 3 dX6_change_98 rfl rfl ?_
      refine vv_getI (mi := mX6_change) (pc := 99) 2 10 hs24 (tgR_ eM29 ht28) fl_X6_75 (Nat.le_of_ble_eq_true rfl) dX6_change_99 ?_
      obtain ⟨ht30, h⟩ := h
      refine vv_callV (mi := mX6_change) (pc := 102) (rest := []) (As := [.inr (.inr x1), .inr (.inr (ddR M29 aq23 14)), .inl (ddI M29 aq23 10)]) (ctX6_appendFrom (X := X) h) dX6_change_102 rfl ht30 (Nat.le_of_ble_eq_true rfl) rfl mb_X6_appendFrom rfl ml_X6_78 im_X6_appendFrom se_X6_appendFrom ⟨(Nat.le_of_ble_eq_true rfl), (Nat.le_of_ble_eq_true rfl)⟩ ⟨(Nat.le_of_ble_eq_true rfl), (Nat.le_of_ble_eq_true rfl)⟩ (Nat.le_of_ble_eq_true rfl) rfl (kV_ (F := fun st M' => VV X mX6_change rX6_change (pI_ post) 105 [(6, .inl v19), (5, .inl v11), (0, .inr (.inr (some this))), (1, .inr (.inr x1)), (2, .inr (.inr x2)), (3, .inl x3), (4, .inl x4)] st M' 2 26) (fun M32 h => ?_))
      refine vv_sub (mi := mX6_change) [(0, .inr (.inr (some this))), (1, .inr (.inr x1)), (2, .inr (.inr x2)), (3, .inl x3), (6, .inl v19)] [2, 3, 4, 5, 0] rfl ?_
      exact bX6_change_105 (X := X)  h
  · replace h := h.2 c15
    refine vv_bipush (mi := mX6_change) (pc := 46) (-3) dX6_change_46 rfl ?_
    exact vv_iret (mi := mX6_change) (pc := 48) dX6_change_48 rfl (Nat.le_of_ble_eq_true rfl) (Nat.le_of_ble_eq_true rfl) h
set_option maxHeartbeats 4000000 in
set_option maxRecDepth 100000 in
theorem ctX6_change {X : Cx_} {this : Nat} {a1 : Option Nat} {a2 : Option Nat} {a3 : Int32} {M : Mm} {post : Int32 → Mm → Prop} (h : PX6_change this a1 a2 a3 M post) : CT X mX6_change rX6_change [.inr (.inr (some this)), .inr (.inr a1), .inr (.inr a2), .inl a3] M (pI_ post) := by
  unfold PX6_change at h
  refine CT.of (by decide +kernel) (Nat.le_of_ble_eq_true rfl) ?_
  show VV X mX6_change rX6_change (pI_ post) 0 [(0, .inr (.inr (some this))), (1, .inr (.inr a1)), (2, .inr (.inr a2)), (3, .inl a3)] [] M 0 0
  refine vv_aload_n (mi := mX6_change) (pc := 0) 1 dX6_change_0 rfl rfl ?_
  obtain ⟨aq1, hs2, h⟩ := h
  obtain ⟨ht3, h⟩ := h
  refine vv_getI (mi := mX6_change) (pc := 1) 2 4 hs2 ht3 fl_X6_50 (Nat.le_of_ble_eq_true rfl) dX6_change_1 ?_
  refine vv_aload_n (mi := mX6_change) (pc := 4) 2 dX6_change_4 rfl rfl ?_
  obtain ⟨aq4, hs5, h⟩ := h
  obtain ⟨ht6, h⟩ := h
  refine vv_getI (mi := mX6_change) (pc := 5) 2 4 hs5 ht6 fl_X6_50 (Nat.le_of_ble_eq_true rfl) dX6_change_5 ?_
  refine vv_iconst (mi := mX6_change) (pc := 8) (-1) dX6_change_8 rfl ?_
  refine vv_ixor (mi := mX6_change) (pc := 9) dX6_change_9 ?_
  refine vv_iand (mi := mX6_change) (pc := 10) dX6_change_10 ?_
  obtain ⟨v7, ev7⟩ : ∃ z : Int32, z = ((ddI M aq1 4) &&& ((ddI M aq4 4) ^^^ (-1))) := ⟨_, rfl⟩
  refine vv_namI ev7 ?_
  replace h := h _ ev7
  refine vv_istore (mi := mX6_change) (pc := 11) [(4, .inl v7), (0, .inr (.inr (some this))), (1, .inr (.inr a1)), (2, .inr (.inr a2)), (3, .inl a3)] dX6_change_11 (Nat.le_of_ble_eq_true rfl) rfl ?_
  refine vv_iconst (mi := mX6_change) (pc := 13) 1 dX6_change_13 rfl ?_
  refine vv_iload (mi := mX6_change) (pc := 14) 0 dX6_change_14 rfl ?_
  refine vv_if_eq (mi := mX6_change) (pc := 16) 23 dX6_change_16 rfl (fun c8 => ?_) (fun c8 => ?_)
  · replace h := h.1 c8
    refine vv_iconst (mi := mX6_change) (pc := 23) 0 dX6_change_23 rfl ?_
    refine vv_iadd (mi := mX6_change) (pc := 24) dX6_change_24 ?_
    refine vv_iload_n (mi := mX6_change) (pc := 25) 4 dX6_change_25 rfl rfl ?_
    refine vv_if_le (mi := mX6_change) (pc := 26) 33 dX6_change_26 rfl (fun c9 => ?_) (fun c9 => ?_)
    · replace h := h.1 c9
      refine vv_iconst (mi := mX6_change) (pc := 33) 0 dX6_change_33 rfl ?_
      refine vv_sub (mi := mX6_change) [(0, .inr (.inr (some this))), (1, .inr (.inr a1)), (2, .inr (.inr a2)), (3, .inl a3), (4, .inl v7)] [1, 2, 3, 4, 0] rfl ?_
      exact bX6_change_34 (X := X)  h
    · replace h := h.2 c9
      refine vv_iconst (mi := mX6_change) (pc := 29) 1 dX6_change_29 rfl ?_
      refine vv_goto (mi := mX6_change) (pc := 30) 34 dX6_change_30 rfl ?_
      refine vv_sub (mi := mX6_change) [(0, .inr (.inr (some this))), (1, .inr (.inr a1)), (2, .inr (.inr a2)), (3, .inl a3), (4, .inl v7)] [1, 2, 3, 4, 0] rfl ?_
      exact bX6_change_34 (X := X)  h
  · replace h := h.2 c8
    refine vv_iconst (mi := mX6_change) (pc := 19) 1 dX6_change_19 rfl ?_
    refine vv_goto (mi := mX6_change) (pc := 20) 24 dX6_change_20 rfl ?_
    refine vv_iadd (mi := mX6_change) (pc := 24) dX6_change_24 ?_
    refine vv_iload_n (mi := mX6_change) (pc := 25) 4 dX6_change_25 rfl rfl ?_
    refine vv_if_le (mi := mX6_change) (pc := 26) 33 dX6_change_26 rfl (fun c10 => ?_) (fun c10 => ?_)
    · replace h := h.1 c10
      refine vv_iconst (mi := mX6_change) (pc := 33) 0 dX6_change_33 rfl ?_
      refine vv_sub (mi := mX6_change) [(0, .inr (.inr (some this))), (1, .inr (.inr a1)), (2, .inr (.inr a2)), (3, .inl a3), (4, .inl v7)] [1, 2, 3, 4, 0] rfl ?_
      exact bX6_change_34 (X := X)  h
    · replace h := h.2 c10
      refine vv_iconst (mi := mX6_change) (pc := 29) 1 dX6_change_29 rfl ?_
      refine vv_goto (mi := mX6_change) (pc := 30) 34 dX6_change_30 rfl ?_
      refine vv_sub (mi := mX6_change) [(0, .inr (.inr (some this))), (1, .inr (.inr a1)), (2, .inr (.inr a2)), (3, .inl a3), (4, .inl v7)] [1, 2, 3, 4, 0] rfl ?_
      exact bX6_change_34 (X := X)  h
set_option maxHeartbeats 4000000 in
set_option maxRecDepth 100000 in
theorem bX6_inForceOn_4 {X : Cx_} {kb4 : Nat → Int32 → Int32 → Int32 → Mm → Prop} {post : Int32 → Mm → Prop} (hb4 : ∀ (this : Nat) (x1 : Int32) (x2 : Int32) (x3 : Int32) (M : Mm), kb4 this x1 x2 x3 M → VV X mX6_inForceOn rX6_inForceOn (pI_ post) 4 [(0, .inr (.inr (some this))), (1, .inl x1), (2, .inl x2), (3, .inl x3)] [] M 0 0) {this : Nat} {x1 : Int32} {x2 : Int32} {x3 : Int32} {M : Mm} (h : BX6_inForceOn_4 kb4 post this x1 x2 x3 M) : VV X mX6_inForceOn rX6_inForceOn (pI_ post) 4 [(0, .inr (.inr (some this))), (1, .inl x1), (2, .inl x2), (3, .inl x3)] [] M 0 0 := by
  unfold BX6_inForceOn_4 at h
  refine vv_iload_n (mi := mX6_inForceOn) (pc := 4) 3 dX6_inForceOn_4 rfl rfl ?_
  refine vv_aload_n (mi := mX6_inForceOn) (pc := 5) 0 dX6_inForceOn_5 rfl rfl ?_
  obtain ⟨ht1, h⟩ := h
  refine vv_getI (mi := mX6_inForceOn) (pc := 6) 6 1 rfl ht1 fl_X6_17 (Nat.le_of_ble_eq_true rfl) dX6_inForceOn_6 ?_
  refine vv_icmp_ge (mi := mX6_inForceOn) (pc := 9) 42 dX6_inForceOn_9 rfl (fun c2 => ?_) (fun c2 => ?_)
  · replace h := h.1 c2
    refine vv_iload_n (mi := mX6_inForceOn) (pc := 42) 2 dX6_inForceOn_42 rfl rfl ?_
    exact vv_iret (mi := mX6_inForceOn) (pc := 43) dX6_inForceOn_43 rfl (Nat.le_of_ble_eq_true rfl) (Nat.le_of_ble_eq_true rfl) h
  · replace h := h.2 c2
    refine vv_aload_n (mi := mX6_inForceOn) (pc := 12) 0 dX6_inForceOn_12 rfl rfl ?_
    refine vv_iload_n (mi := mX6_inForceOn) (pc := 13) 3 dX6_inForceOn_13 rfl rfl ?_
    refine vv_callV (mi := mX6_inForceOn) (pc := 14) (rest := []) (As := [.inl x3]) (ctX6_entryAt (X := X) h) dX6_inForceOn_14 rfl ht1 (Nat.le_of_ble_eq_true rfl) rfl mb_X6_entryAt rfl ml_X6_28 im_X6_entryAt se_X6_entryAt ⟨(Nat.le_of_ble_eq_true rfl), (Nat.le_of_ble_eq_true rfl)⟩ ⟨(Nat.le_of_ble_eq_true rfl), (Nat.le_of_ble_eq_true rfl)⟩ (Nat.le_of_ble_eq_true rfl) rfl (kR_ (F := fun st M' => VV X mX6_inForceOn rX6_inForceOn (pI_ post) 17 [(0, .inr (.inr (some this))), (1, .inl x1), (2, .inl x2), (3, .inl x3)] st M' 0 0) (fun r3 M4 h => ?_))
    refine vv_astore (mi := mX6_inForceOn) (pc := 17) [(4, .inr (.inr r3)), (0, .inr (.inr (some this))), (1, .inl x1), (2, .inl x2), (3, .inl x3)] dX6_inForceOn_17 (Nat.le_of_ble_eq_true rfl) rfl ?_
    refine vv_aload (mi := mX6_inForceOn) (pc := 19) 0 dX6_inForceOn_19 rfl ?_
    refine vv_ifnull (mi := mX6_inForceOn) (pc := 21) 36 dX6_inForceOn_21 rfl (fun c5 => ?_) (fun aq6 c5 => ?_)
    · replace h := h.1 c5
      refine vv_iinc (mi := mX6_inForceOn) (pc := 36) (x3 + 1) 4 [(3, .inl (x3 + 1)), (4, .inr (.inr r3)), (0, .inr (.inr (some this))), (1, .inl x1), (2, .inl x2)] dX6_inForceOn_36 rfl rfl (Nat.le_of_ble_eq_true rfl) rfl ?_
      refine vv_goto (mi := mX6_inForceOn) (pc := 39) 4 dX6_inForceOn_39 rfl ?_
      refine vv_sub (mi := mX6_inForceOn) [(0, .inr (.inr (some this))), (1, .inl x1), (2, .inl x2), (3, .inl (x3 + 1))] [2, 3, 4, 0] rfl ?_
      exact hb4 _ _ _ _ _ h
    · replace h := h.2 aq6 c5
      refine vv_aload (mi := mX6_inForceOn) (pc := 24) 0 dX6_inForceOn_24 rfl ?_
      refine vv_iload_n (mi := mX6_inForceOn) (pc := 26) 2 dX6_inForceOn_26 rfl rfl ?_
      obtain ⟨ht7, h⟩ := h
      refine vv_callV (mi := mX6_inForceOn) (pc := 27) (rest := []) (As := [.inl x1]) (ctX2_isInForce (X := X) h) dX6_inForceOn_27 c5 ht7 (Nat.le_of_ble_eq_true rfl) rfl mb_X2_isInForce rfl ml_X6_104 im_X2_isInForce se_X2_isInForce ⟨(Nat.le_of_ble_eq_true rfl), (Nat.le_of_ble_eq_true rfl)⟩ ⟨(Nat.le_of_ble_eq_true rfl), (Nat.le_of_ble_eq_true rfl)⟩ (Nat.le_of_ble_eq_true rfl) rfl (kI_ (F := fun st M' => VV X mX6_inForceOn rX6_inForceOn (pI_ post) 30 [(4, .inr (.inr r3)), (0, .inr (.inr (some this))), (1, .inl x1), (2, .inl x2), (3, .inl x3)] st M' 0 0) (fun r8 M9 h => ?_))
      refine vv_if_eq (mi := mX6_inForceOn) (pc := 30) 36 dX6_inForceOn_30 rfl (fun c10 => ?_) (fun c10 => ?_)
      · replace h := h.1 c10
        refine vv_iinc (mi := mX6_inForceOn) (pc := 36) (x3 + 1) 4 [(3, .inl (x3 + 1)), (4, .inr (.inr r3)), (0, .inr (.inr (some this))), (1, .inl x1), (2, .inl x2)] dX6_inForceOn_36 rfl rfl (Nat.le_of_ble_eq_true rfl) rfl ?_
        refine vv_goto (mi := mX6_inForceOn) (pc := 39) 4 dX6_inForceOn_39 rfl ?_
        refine vv_sub (mi := mX6_inForceOn) [(0, .inr (.inr (some this))), (1, .inl x1), (2, .inl x2), (3, .inl (x3 + 1))] [2, 3, 4, 0] rfl ?_
        exact hb4 _ _ _ _ _ h
      · replace h := h.2 c10
        refine vv_iinc (mi := mX6_inForceOn) (pc := 33) (x2 + 1) 3 [(2, .inl (x2 + 1)), (4, .inr (.inr r3)), (0, .inr (.inr (some this))), (1, .inl x1), (3, .inl x3)] dX6_inForceOn_33 rfl rfl (Nat.le_of_ble_eq_true rfl) rfl ?_
        refine vv_iinc (mi := mX6_inForceOn) (pc := 36) (x3 + 1) 4 [(3, .inl (x3 + 1)), (2, .inl (x2 + 1)), (4, .inr (.inr r3)), (0, .inr (.inr (some this))), (1, .inl x1)] dX6_inForceOn_36 rfl rfl (Nat.le_of_ble_eq_true rfl) rfl ?_
        refine vv_goto (mi := mX6_inForceOn) (pc := 39) 4 dX6_inForceOn_39 rfl ?_
        refine vv_sub (mi := mX6_inForceOn) [(0, .inr (.inr (some this))), (1, .inl x1), (2, .inl (x2 + 1)), (3, .inl (x3 + 1))] [3, 4, 1, 0] rfl ?_
        exact hb4 _ _ _ _ _ h
theorem loX6_inForceOn_4 {X : Cx_}  {post : Int32 → Mm → Prop}  : ∀ (fu : Nat) {this : Nat} {x1 : Int32} {x2 : Int32} {x3 : Int32} {M : Mm}, DX6_inForceOn_4  post fu this x1 x2 x3 M → VV X mX6_inForceOn rX6_inForceOn (pI_ post) 4 [(0, .inr (.inr (some this))), (1, .inl x1), (2, .inl x2), (3, .inl x3)] [] M 0 0
  | 0, _, _, _, _, _, h => False.elim h
  | fu + 1, _, _, _, _, _, h => bX6_inForceOn_4 (fun this x1 x2 x3 M h => loX6_inForceOn_4  fu h) h
set_option maxHeartbeats 4000000 in
set_option maxRecDepth 100000 in
theorem ctX6_inForceOn {X : Cx_} {this : Nat} {a1 : Int32} {M : Mm} {post : Int32 → Mm → Prop} (h : PX6_inForceOn this a1 M post) : CT X mX6_inForceOn rX6_inForceOn [.inr (.inr (some this)), .inl a1] M (pI_ post) := by
  unfold PX6_inForceOn at h
  refine CT.of (by decide +kernel) (Nat.le_of_ble_eq_true rfl) ?_
  show VV X mX6_inForceOn rX6_inForceOn (pI_ post) 0 [(0, .inr (.inr (some this))), (1, .inl a1)] [] M 0 0
  refine vv_iconst (mi := mX6_inForceOn) (pc := 0) 0 dX6_inForceOn_0 rfl ?_
  refine vv_istore_n (mi := mX6_inForceOn) (pc := 1) [(2, .inl 0), (0, .inr (.inr (some this))), (1, .inl a1)] dX6_inForceOn_1 rfl (Nat.le_of_ble_eq_true rfl) rfl ?_
  refine vv_iconst (mi := mX6_inForceOn) (pc := 2) 0 dX6_inForceOn_2 rfl ?_
  refine vv_istore_n (mi := mX6_inForceOn) (pc := 3) [(3, .inl 0), (2, .inl 0), (0, .inr (.inr (some this))), (1, .inl a1)] dX6_inForceOn_3 rfl (Nat.le_of_ble_eq_true rfl) rfl ?_
  refine vv_sub (mi := mX6_inForceOn) [(0, .inr (.inr (some this))), (1, .inl a1), (2, .inl 0), (3, .inl 0)] [2, 3, 1, 0] rfl ?_
  obtain ⟨fu, h⟩ := h
  exact loX6_inForceOn_4 (X := X)  fu h
set_option maxHeartbeats 4000000 in
set_option maxRecDepth 100000 in
theorem bX6_noteInForce_12 {X : Cx_} {kb12 : Nat → Int32 → Int32 → Mm → Prop} {post : Mm → Prop} (hb12 : ∀ (this : Nat) (x1 : Int32) (x2 : Int32) (M : Mm), kb12 this x1 x2 M → VV X mX6_noteInForce rX6_noteInForce (pV_ post) 12 [(0, .inr (.inr (some this))), (1, .inl x1), (2, .inl x2)] [] M 0 0) {this : Nat} {x1 : Int32} {x2 : Int32} {M : Mm} (h : BX6_noteInForce_12 kb12 post this x1 x2 M) : VV X mX6_noteInForce rX6_noteInForce (pV_ post) 12 [(0, .inr (.inr (some this))), (1, .inl x1), (2, .inl x2)] [] M 0 0 := by
  unfold BX6_noteInForce_12 at h
  refine vv_iload_n (mi := mX6_noteInForce) (pc := 12) 2 dX6_noteInForce_12 rfl rfl ?_
  refine vv_aload_n (mi := mX6_noteInForce) (pc := 13) 0 dX6_noteInForce_13 rfl rfl ?_
  obtain ⟨ht4, h⟩ := h
  refine vv_getI (mi := mX6_noteInForce) (pc := 14) 6 1 rfl ht4 fl_X6_17 (Nat.le_of_ble_eq_true rfl) dX6_noteInForce_14 ?_
  refine vv_icmp_ge (mi := mX6_noteInForce) (pc := 17) 80 dX6_noteInForce_17 rfl (fun c5 => ?_) (fun c5 => ?_)
  · replace h := h.1 c5
    exact vv_vret (mi := mX6_noteInForce) (pc := 80) dX6_noteInForce_80 rfl (Nat.le_of_ble_eq_true rfl) (Nat.le_of_ble_eq_true rfl) h
  · replace h := h.2 c5
    refine vv_aload_n (mi := mX6_noteInForce) (pc := 20) 0 dX6_noteInForce_20 rfl rfl ?_
    refine vv_iload_n (mi := mX6_noteInForce) (pc := 21) 2 dX6_noteInForce_21 rfl rfl ?_
    refine vv_callV (mi := mX6_noteInForce) (pc := 22) (rest := []) (As := [.inl x2]) (ctX6_entryAt (X := X) h) dX6_noteInForce_22 rfl ht4 (Nat.le_of_ble_eq_true rfl) rfl mb_X6_entryAt rfl ml_X6_28 im_X6_entryAt se_X6_entryAt ⟨(Nat.le_of_ble_eq_true rfl), (Nat.le_of_ble_eq_true rfl)⟩ ⟨(Nat.le_of_ble_eq_true rfl), (Nat.le_of_ble_eq_true rfl)⟩ (Nat.le_of_ble_eq_true rfl) rfl (kR_ (F := fun st M' => VV X mX6_noteInForce rX6_noteInForce (pV_ post) 25 [(0, .inr (.inr (some this))), (1, .inl x1), (2, .inl x2)] st M' 0 0) (fun r6 M7 h => ?_))
    refine vv_astore_n (mi := mX6_noteInForce) (pc := 25) [(3, .inr (.inr r6)), (0, .inr (.inr (some this))), (1, .inl x1), (2, .inl x2)] dX6_noteInForce_25 rfl (Nat.le_of_ble_eq_true rfl) rfl ?_
    refine vv_aload_n (mi := mX6_noteInForce) (pc := 26) 0 dX6_noteInForce_26 rfl rfl ?_
    refine vv_ifnull (mi := mX6_noteInForce) (pc := 27) 74 dX6_noteInForce_27 rfl (fun c8 => ?_) (fun aq9 c8 => ?_)
    · replace h := h.1 c8
      refine vv_iinc (mi := mX6_noteInForce) (pc := 74) (x2 + 1) 3 [(2, .inl (x2 + 1)), (3, .inr (.inr r6)), (0, .inr (.inr (some this))), (1, .inl x1)] dX6_noteInForce_74 rfl rfl (Nat.le_of_ble_eq_true rfl) rfl ?_
      refine vv_goto (mi := mX6_noteInForce) (pc := 77) 12 dX6_noteInForce_77 rfl ?_
      refine vv_sub (mi := mX6_noteInForce) [(0, .inr (.inr (some this))), (1, .inl x1), (2, .inl (x2 + 1))] [2, 3, 0] rfl ?_
      exact hb12 _ _ _ _ h
    · replace h := h.2 aq9 c8
      refine vv_aload_n (mi := mX6_noteInForce) (pc := 30) 0 dX6_noteInForce_30 rfl rfl ?_
      refine vv_iload_n (mi := mX6_noteInForce) (pc := 31) 2 dX6_noteInForce_31 rfl rfl ?_
      obtain ⟨ht10, h⟩ := h
      refine vv_callV (mi := mX6_noteInForce) (pc := 32) (rest := []) (As := [.inl x1]) (ctX2_isInForce (X := X) h) dX6_noteInForce_32 c8 ht10 (Nat.le_of_ble_eq_true rfl) rfl mb_X2_isInForce rfl ml_X6_104 im_X2_isInForce se_X2_isInForce ⟨(Nat.le_of_ble_eq_true rfl), (Nat.le_of_ble_eq_true rfl)⟩ ⟨(Nat.le_of_ble_eq_true rfl), (Nat.le_of_ble_eq_true rfl)⟩ (Nat.le_of_ble_eq_true rfl) rfl (kI_ (F := fun st M' => VV X mX6_noteInForce rX6_noteInForce (pV_ post) 35 [(3, .inr (.inr r6)), (0, .inr (.inr (some this))), (1, .inl x1), (2, .inl x2)] st M' 0 0) (fun r11 M12 h => ?_))
      refine vv_if_eq (mi := mX6_noteInForce) (pc := 35) 74 dX6_noteInForce_35 rfl (fun c13 => ?_) (fun c13 => ?_)
      · replace h := h.1 c13
        refine vv_iinc (mi := mX6_noteInForce) (pc := 74) (x2 + 1) 3 [(2, .inl (x2 + 1)), (3, .inr (.inr r6)), (0, .inr (.inr (some this))), (1, .inl x1)] dX6_noteInForce_74 rfl rfl (Nat.le_of_ble_eq_true rfl) rfl ?_
        refine vv_goto (mi := mX6_noteInForce) (pc := 77) 12 dX6_noteInForce_77 rfl ?_
        refine vv_sub (mi := mX6_noteInForce) [(0, .inr (.inr (some this))), (1, .inl x1), (2, .inl (x2 + 1))] [2, 3, 0] rfl ?_
        exact hb12 _ _ _ _ h
      · replace h := h.2 c13
        refine vv_iload_n (mi := mX6_noteInForce) (pc := 38) 3 dX6_noteInForce_38 rfl rfl ?_
        refine vv_bipush (mi := mX6_noteInForce) (pc := 39) 64 dX6_noteInForce_39 rfl ?_
        refine vv_icmp_ge (mi := mX6_noteInForce) (pc := 41) 59 dX6_noteInForce_41 rfl (fun c14 => ?_) (fun c14 => ?_)
        · replace h := h.1 c14
          refine vv_aload_n (mi := mX6_noteInForce) (pc := 59) 1 dX6_noteInForce_59 rfl rfl ?_
          refine vv_dup (mi := mX6_noteInForce) (pc := 60) dX6_noteInForce_60 rfl ?_
          obtain ⟨ht15, h⟩ := h
          refine vv_getL (mi := mX6_noteInForce) (pc := 61) 6 3 rfl ht15 fl_X6_111 (Nat.le_of_ble_eq_true rfl) dX6_noteInForce_61 ?_
          refine vv_lconst (mi := mX6_noteInForce) (pc := 64) 1 dX6_noteInForce_64 rfl ?_
          refine vv_iload_n (mi := mX6_noteInForce) (pc := 65) 3 dX6_noteInForce_65 rfl rfl ?_
          refine vv_bipush (mi := mX6_noteInForce) (pc := 66) 64 dX6_noteInForce_66 rfl ?_
          refine vv_isub (mi := mX6_noteInForce) (pc := 68) dX6_noteInForce_68 ?_
          refine vv_lshl (mi := mX6_noteInForce) (pc := 69) dX6_noteInForce_69 ?_
          refine vv_lor (mi := mX6_noteInForce) (pc := 70) dX6_noteInForce_70 ?_
          obtain ⟨M16, eM16⟩ : ∃ z : Mm, z = suL M12 this 3 ((ddL M12 this 3) ||| (1 <<< ((Int32.toInt64 (x2 - 64)) &&& 63))) := ⟨_, rfl⟩
          replace h := h _ eM16
          refine vv_putL (mi := mX6_noteInForce) (pc := 71) 6 3 rfl ht15 fq_X6_111 (fun q => by cases q) rfl (Nat.le_of_ble_eq_true rfl) dX6_noteInForce_71 eM16 ?_
          refine vv_iinc (mi := mX6_noteInForce) (pc := 74) (x2 + 1) 3 [(2, .inl (x2 + 1)), (3, .inr (.inr r6)), (0, .inr (.inr (some this))), (1, .inl x1)] dX6_noteInForce_74 rfl rfl (Nat.le_of_ble_eq_true rfl) rfl ?_
          refine vv_goto (mi := mX6_noteInForce) (pc := 77) 12 dX6_noteInForce_77 rfl ?_
          refine vv_sub (mi := mX6_noteInForce) [(0, .inr (.inr (some this))), (1, .inl x1), (2, .inl (x2 + 1))] [2, 3, 0] rfl ?_
          exact hb12 _ _ _ _ h
        · replace h := h.2 c14
          refine vv_aload_n (mi := mX6_noteInForce) (pc := 44) 1 dX6_noteInForce_44 rfl rfl ?_
          refine vv_dup (mi := mX6_noteInForce) (pc := 45) dX6_noteInForce_45 rfl ?_
          obtain ⟨ht17, h⟩ := h
          refine vv_getL (mi := mX6_noteInForce) (pc := 46) 6 2 rfl ht17 fl_X6_107 (Nat.le_of_ble_eq_true rfl) dX6_noteInForce_46 ?_
          refine vv_lconst (mi := mX6_noteInForce) (pc := 49) 1 dX6_noteInForce_49 rfl ?_
          refine vv_iload_n (mi := mX6_noteInForce) (pc := 50) 3 dX6_noteInForce_50 rfl rfl ?_
          refine vv_lshl (mi := mX6_noteInForce) (pc := 51) dX6_noteInForce_51 ?_
          refine vv_lor (mi := mX6_noteInForce) (pc := 52) dX6_noteInForce_52 ?_
          obtain ⟨M18, eM18⟩ : ∃ z : Mm, z = suL M12 this 2 ((ddL M12 this 2) ||| (1 <<< ((Int32.toInt64 x2) &&& 63))) := ⟨_, rfl⟩
          replace h := h _ eM18
          refine vv_putL (mi := mX6_noteInForce) (pc := 53) 6 2 rfl ht17 fq_X6_107 (fun q => by cases q) rfl (Nat.le_of_ble_eq_true rfl) dX6_noteInForce_53 eM18 ?_
          refine vv_goto (mi := mX6_noteInForce) (pc := 56) 74 dX6_noteInForce_56 rfl ?_
          refine vv_iinc (mi := mX6_noteInForce) (pc := 74) (x2 + 1) 3 [(2, .inl (x2 + 1)), (3, .inr (.inr r6)), (0, .inr (.inr (some this))), (1, .inl x1)] dX6_noteInForce_74 rfl rfl (Nat.le_of_ble_eq_true rfl) rfl ?_
          refine vv_goto (mi := mX6_noteInForce) (pc := 77) 12 dX6_noteInForce_77 rfl ?_
          refine vv_sub (mi := mX6_noteInForce) [(0, .inr (.inr (some this))), (1, .inl x1), (2, .inl (x2 + 1))] [2, 3, 0] rfl ?_
          exact hb12 _ _ _ _ h
theorem loX6_noteInForce_12 {X : Cx_}  {post : Mm → Prop}  : ∀ (fu : Nat) {this : Nat} {x1 : Int32} {x2 : Int32} {M : Mm}, DX6_noteInForce_12  post fu this x1 x2 M → VV X mX6_noteInForce rX6_noteInForce (pV_ post) 12 [(0, .inr (.inr (some this))), (1, .inl x1), (2, .inl x2)] [] M 0 0
  | 0, _, _, _, _, h => False.elim h
  | fu + 1, _, _, _, _, h => bX6_noteInForce_12 (fun this x1 x2 M h => loX6_noteInForce_12  fu h) h
set_option maxHeartbeats 4000000 in
set_option maxRecDepth 100000 in
theorem ctX6_noteInForce {X : Cx_} {this : Nat} {a1 : Int32} {M : Mm} {post : Mm → Prop} (h : PX6_noteInForce this a1 M post) : CT X mX6_noteInForce rX6_noteInForce [.inr (.inr (some this)), .inl a1] M (pV_ post) := by
  unfold PX6_noteInForce at h
  refine CT.of (by decide +kernel) (Nat.le_of_ble_eq_true rfl) ?_
  show VV X mX6_noteInForce rX6_noteInForce (pV_ post) 0 [(0, .inr (.inr (some this))), (1, .inl a1)] [] M 0 0
  refine vv_aload_n (mi := mX6_noteInForce) (pc := 0) 0 dX6_noteInForce_0 rfl rfl ?_
  refine vv_lconst (mi := mX6_noteInForce) (pc := 1) 0 dX6_noteInForce_1 rfl ?_
  obtain ⟨ht1, h⟩ := h
  obtain ⟨M2, eM2⟩ : ∃ z : Mm, z = suL M this 2 0 := ⟨_, rfl⟩
  replace h := h _ eM2
  refine vv_putL (mi := mX6_noteInForce) (pc := 2) 6 2 rfl ht1 fq_X6_107 (fun q => by cases q) rfl (Nat.le_of_ble_eq_true rfl) dX6_noteInForce_2 eM2 ?_
  refine vv_aload_n (mi := mX6_noteInForce) (pc := 5) 0 dX6_noteInForce_5 rfl rfl ?_
  refine vv_lconst (mi := mX6_noteInForce) (pc := 6) 0 dX6_noteInForce_6 rfl ?_
  obtain ⟨M3, eM3⟩ : ∃ z : Mm, z = suL M2 this 3 0 := ⟨_, rfl⟩
  replace h := h _ eM3
  refine vv_putL (mi := mX6_noteInForce) (pc := 7) 6 3 rfl (tgL_ eM2 ht1) fq_X6_111 (fun q => by cases q) rfl (Nat.le_of_ble_eq_true rfl) dX6_noteInForce_7 eM3 ?_
  refine vv_iconst (mi := mX6_noteInForce) (pc := 10) 0 dX6_noteInForce_10 rfl ?_
  refine vv_istore_n (mi := mX6_noteInForce) (pc := 11) [(2, .inl 0), (0, .inr (.inr (some this))), (1, .inl a1)] dX6_noteInForce_11 rfl (Nat.le_of_ble_eq_true rfl) rfl ?_
  refine vv_sub (mi := mX6_noteInForce) [(0, .inr (.inr (some this))), (1, .inl a1), (2, .inl 0)] [1, 2, 0] rfl ?_
  obtain ⟨fu, h⟩ := h
  exact loX6_noteInForce_12 (X := X)  fu h
set_option maxHeartbeats 4000000 in
set_option maxRecDepth 100000 in
theorem ctJ13_bitCount_95d88 {X : Cx_} {a1 : Int64} {M : Mm} {post : Int32 → Mm → Prop} (h : PJ13_bitCount_95d88 a1 M post) : CT X mJ13_bitCount_95d88 rJ13_bitCount_95d88 [.inr (.inl a1)] M (pI_ post) := by
  unfold PJ13_bitCount_95d88 at h
  refine CT.of (by decide +kernel) (Nat.le_of_ble_eq_true rfl) ?_
  show VV X mJ13_bitCount_95d88 rJ13_bitCount_95d88 (pI_ post) 0 [(0, .inr (.inl a1))] [] M 0 0
  refine vv_lload_n (mi := mJ13_bitCount_95d88) (pc := 0) 0 dJ13_bitCount_95d88_0 rfl rfl ?_
  refine vv_lload_n (mi := mJ13_bitCount_95d88) (pc := 1) 0 dJ13_bitCount_95d88_1 rfl rfl ?_
  refine vv_iconst (mi := mJ13_bitCount_95d88) (pc := 2) 1 dJ13_bitCount_95d88_2 rfl ?_
  refine vv_lushr (mi := mJ13_bitCount_95d88) (pc := 3) dJ13_bitCount_95d88_3 ?_
  refine vv_ldc2 (mi := mJ13_bitCount_95d88) (pc := 4) 6148914691236517205 dJ13_bitCount_95d88_4 kl_J13_314 ?_
  refine vv_land (mi := mJ13_bitCount_95d88) (pc := 7) dJ13_bitCount_95d88_7 ?_
  refine vv_lsub (mi := mJ13_bitCount_95d88) (pc := 8) dJ13_bitCount_95d88_8 ?_
  obtain ⟨v1, ev1⟩ : ∃ z : Int64, z = (a1 - ((a1.toUInt64 >>> ((Int32.toInt64 1).toUInt64 &&& Int64.toUInt64 63)).toInt64 &&& 6148914691236517205)) := ⟨_, rfl⟩
  refine vv_namL ev1 ?_
  replace h := h _ ev1
  refine vv_lstore_n (mi := mJ13_bitCount_95d88) (pc := 9) [(0, .inr (.inl v1))] dJ13_bitCount_95d88_9 rfl (Nat.le_of_ble_eq_true rfl) rfl ?_
  refine vv_lload_n (mi := mJ13_bitCount_95d88) (pc := 10) 0 dJ13_bitCount_95d88_10 rfl rfl ?_
  refine vv_ldc2 (mi := mJ13_bitCount_95d88) (pc := 11) 3689348814741910323 dJ13_bitCount_95d88_11 kl_J13_316 ?_
  refine vv_land (mi := mJ13_bitCount_95d88) (pc := 14) dJ13_bitCount_95d88_14 ?_
  refine vv_lload_n (mi := mJ13_bitCount_95d88) (pc := 15) 0 dJ13_bitCount_95d88_15 rfl rfl ?_
  refine vv_iconst (mi := mJ13_bitCount_95d88) (pc := 16) 2 dJ13_bitCount_95d88_16 rfl ?_
  refine vv_lushr (mi := mJ13_bitCount_95d88) (pc := 17) dJ13_bitCount_95d88_17 ?_
  refine vv_ldc2 (mi := mJ13_bitCount_95d88) (pc := 18) 3689348814741910323 dJ13_bitCount_95d88_18 kl_J13_316 ?_
  refine vv_land (mi := mJ13_bitCount_95d88) (pc := 21) dJ13_bitCount_95d88_21 ?_
  refine vv_ladd (mi := mJ13_bitCount_95d88) (pc := 22) dJ13_bitCount_95d88_22 ?_
  obtain ⟨v2, ev2⟩ : ∃ z : Int64, z = ((v1 &&& 3689348814741910323) + ((v1.toUInt64 >>> ((Int32.toInt64 2).toUInt64 &&& Int64.toUInt64 63)).toInt64 &&& 3689348814741910323)) := ⟨_, rfl⟩
  refine vv_namL ev2 ?_
  replace h := h _ ev2
  refine vv_lstore_n (mi := mJ13_bitCount_95d88) (pc := 23) [(0, .inr (.inl v2))] dJ13_bitCount_95d88_23 rfl (Nat.le_of_ble_eq_true rfl) rfl ?_
  refine vv_lload_n (mi := mJ13_bitCount_95d88) (pc := 24) 0 dJ13_bitCount_95d88_24 rfl rfl ?_
  refine vv_lload_n (mi := mJ13_bitCount_95d88) (pc := 25) 0 dJ13_bitCount_95d88_25 rfl rfl ?_
  refine vv_iconst (mi := mJ13_bitCount_95d88) (pc := 26) 4 dJ13_bitCount_95d88_26 rfl ?_
  refine vv_lushr (mi := mJ13_bitCount_95d88) (pc := 27) dJ13_bitCount_95d88_27 ?_
  refine vv_ladd (mi := mJ13_bitCount_95d88) (pc := 28) dJ13_bitCount_95d88_28 ?_
  refine vv_ldc2 (mi := mJ13_bitCount_95d88) (pc := 29) 1085102592571150095 dJ13_bitCount_95d88_29 kl_J13_318 ?_
  refine vv_land (mi := mJ13_bitCount_95d88) (pc := 32) dJ13_bitCount_95d88_32 ?_
  obtain ⟨v3, ev3⟩ : ∃ z : Int64, z = ((v2 + (v2.toUInt64 >>> ((Int32.toInt64 4).toUInt64 &&& Int64.toUInt64 63)).toInt64) &&& 1085102592571150095) := ⟨_, rfl⟩
  refine vv_namL ev3 ?_
  replace h := h _ ev3
  refine vv_lstore_n (mi := mJ13_bitCount_95d88) (pc := 33) [(0, .inr (.inl v3))] dJ13_bitCount_95d88_33 rfl (Nat.le_of_ble_eq_true rfl) rfl ?_
  refine vv_lload_n (mi := mJ13_bitCount_95d88) (pc := 34) 0 dJ13_bitCount_95d88_34 rfl rfl ?_
  refine vv_lload_n (mi := mJ13_bitCount_95d88) (pc := 35) 0 dJ13_bitCount_95d88_35 rfl rfl ?_
  refine vv_bipush (mi := mJ13_bitCount_95d88) (pc := 36) 8 dJ13_bitCount_95d88_36 rfl ?_
  refine vv_lushr (mi := mJ13_bitCount_95d88) (pc := 38) dJ13_bitCount_95d88_38 ?_
  refine vv_ladd (mi := mJ13_bitCount_95d88) (pc := 39) dJ13_bitCount_95d88_39 ?_
  obtain ⟨v4, ev4⟩ : ∃ z : Int64, z = (v3 + (v3.toUInt64 >>> ((Int32.toInt64 8).toUInt64 &&& Int64.toUInt64 63)).toInt64) := ⟨_, rfl⟩
  refine vv_namL ev4 ?_
  replace h := h _ ev4
  refine vv_lstore_n (mi := mJ13_bitCount_95d88) (pc := 40) [(0, .inr (.inl v4))] dJ13_bitCount_95d88_40 rfl (Nat.le_of_ble_eq_true rfl) rfl ?_
  refine vv_lload_n (mi := mJ13_bitCount_95d88) (pc := 41) 0 dJ13_bitCount_95d88_41 rfl rfl ?_
  refine vv_lload_n (mi := mJ13_bitCount_95d88) (pc := 42) 0 dJ13_bitCount_95d88_42 rfl rfl ?_
  refine vv_bipush (mi := mJ13_bitCount_95d88) (pc := 43) 16 dJ13_bitCount_95d88_43 rfl ?_
  refine vv_lushr (mi := mJ13_bitCount_95d88) (pc := 45) dJ13_bitCount_95d88_45 ?_
  refine vv_ladd (mi := mJ13_bitCount_95d88) (pc := 46) dJ13_bitCount_95d88_46 ?_
  obtain ⟨v5, ev5⟩ : ∃ z : Int64, z = (v4 + (v4.toUInt64 >>> ((Int32.toInt64 16).toUInt64 &&& Int64.toUInt64 63)).toInt64) := ⟨_, rfl⟩
  refine vv_namL ev5 ?_
  replace h := h _ ev5
  refine vv_lstore_n (mi := mJ13_bitCount_95d88) (pc := 47) [(0, .inr (.inl v5))] dJ13_bitCount_95d88_47 rfl (Nat.le_of_ble_eq_true rfl) rfl ?_
  refine vv_lload_n (mi := mJ13_bitCount_95d88) (pc := 48) 0 dJ13_bitCount_95d88_48 rfl rfl ?_
  refine vv_lload_n (mi := mJ13_bitCount_95d88) (pc := 49) 0 dJ13_bitCount_95d88_49 rfl rfl ?_
  refine vv_bipush (mi := mJ13_bitCount_95d88) (pc := 50) 32 dJ13_bitCount_95d88_50 rfl ?_
  refine vv_lushr (mi := mJ13_bitCount_95d88) (pc := 52) dJ13_bitCount_95d88_52 ?_
  refine vv_ladd (mi := mJ13_bitCount_95d88) (pc := 53) dJ13_bitCount_95d88_53 ?_
  obtain ⟨v6, ev6⟩ : ∃ z : Int64, z = (v5 + (v5.toUInt64 >>> ((Int32.toInt64 32).toUInt64 &&& Int64.toUInt64 63)).toInt64) := ⟨_, rfl⟩
  refine vv_namL ev6 ?_
  replace h := h _ ev6
  refine vv_lstore_n (mi := mJ13_bitCount_95d88) (pc := 54) [(0, .inr (.inl v6))] dJ13_bitCount_95d88_54 rfl (Nat.le_of_ble_eq_true rfl) rfl ?_
  refine vv_lload_n (mi := mJ13_bitCount_95d88) (pc := 55) 0 dJ13_bitCount_95d88_55 rfl rfl ?_
  refine vv_l2i (mi := mJ13_bitCount_95d88) (pc := 56) dJ13_bitCount_95d88_56 ?_
  refine vv_bipush (mi := mJ13_bitCount_95d88) (pc := 57) 127 dJ13_bitCount_95d88_57 rfl ?_
  refine vv_iand (mi := mJ13_bitCount_95d88) (pc := 59) dJ13_bitCount_95d88_59 ?_
  exact vv_iret (mi := mJ13_bitCount_95d88) (pc := 60) dJ13_bitCount_95d88_60 rfl (Nat.le_of_ble_eq_true rfl) (Nat.le_of_ble_eq_true rfl) h
set_option maxHeartbeats 4000000 in
set_option maxRecDepth 100000 in
theorem ctX6_pairsOf {X : Cx_} {this : Nat} {a1 : Option Nat} {M : Mm} {post : Int32 → Mm → Prop} (h : PX6_pairsOf this a1 M post) : CT X mX6_pairsOf rX6_pairsOf [.inr (.inr (some this)), .inr (.inr a1)] M (pI_ post) := by
  unfold PX6_pairsOf at h
  refine CT.of (by decide +kernel) (Nat.le_of_ble_eq_true rfl) ?_
  show VV X mX6_pairsOf rX6_pairsOf (pI_ post) 0 [(0, .inr (.inr (some this))), (1, .inr (.inr a1))] [] M 0 0
  refine vv_aload_n (mi := mX6_pairsOf) (pc := 0) 1 dX6_pairsOf_0 rfl rfl ?_
  obtain ⟨aq1, hs2, h⟩ := h
  obtain ⟨ht3, h⟩ := h
  refine vv_getL (mi := mX6_pairsOf) (pc := 1) 2 16 hs2 ht3 fl_X6_114 (Nat.le_of_ble_eq_true rfl) dX6_pairsOf_1 ?_
  refine vv_aload_n (mi := mX6_pairsOf) (pc := 4) 0 dX6_pairsOf_4 rfl rfl ?_
  obtain ⟨ht4, h⟩ := h
  refine vv_getL (mi := mX6_pairsOf) (pc := 5) 6 2 rfl ht4 fl_X6_107 (Nat.le_of_ble_eq_true rfl) dX6_pairsOf_5 ?_
  refine vv_land (mi := mX6_pairsOf) (pc := 8) dX6_pairsOf_8 ?_
  refine vv_callS (mi := mX6_pairsOf) (pc := 9) (rest := []) (As := [.inr (.inl ((ddL M aq1 16) &&& (ddL M this 2)))]) (ctJ13_bitCount_95d88 (X := X) h) dX6_pairsOf_9 mb_J13_bitCount_95d88 rfl ml_X6_117 sc_J13_bitCount_95d88 ⟨(Nat.le_of_ble_eq_true rfl), (Nat.le_of_ble_eq_true rfl)⟩ ⟨(Nat.le_of_ble_eq_true rfl), (Nat.le_of_ble_eq_true rfl)⟩ (Nat.le_of_ble_eq_true rfl) rfl (kI_ (F := fun st M' => VV X mX6_pairsOf rX6_pairsOf (pI_ post) 12 [(0, .inr (.inr (some this))), (1, .inr (.inr a1))] st M' 0 0) (fun r5 M6 h => ?_))
  refine vv_aload_n (mi := mX6_pairsOf) (pc := 12) 1 dX6_pairsOf_12 rfl rfl ?_
  obtain ⟨ht7, h⟩ := h
  refine vv_getL (mi := mX6_pairsOf) (pc := 13) 2 17 hs2 ht7 fl_X6_123 (Nat.le_of_ble_eq_true rfl) dX6_pairsOf_13 ?_
  refine vv_aload_n (mi := mX6_pairsOf) (pc := 16) 0 dX6_pairsOf_16 rfl rfl ?_
  obtain ⟨ht8, h⟩ := h
  refine vv_getL (mi := mX6_pairsOf) (pc := 17) 6 3 rfl ht8 fl_X6_111 (Nat.le_of_ble_eq_true rfl) dX6_pairsOf_17 ?_
  refine vv_land (mi := mX6_pairsOf) (pc := 20) dX6_pairsOf_20 ?_
  refine vv_callS (mi := mX6_pairsOf) (pc := 21) (rest := [.inl r5]) (As := [.inr (.inl ((ddL M6 aq1 17) &&& (ddL M6 this 3)))]) (ctJ13_bitCount_95d88 (X := X) h) dX6_pairsOf_21 mb_J13_bitCount_95d88 rfl ml_X6_117 sc_J13_bitCount_95d88 ⟨(Nat.le_of_ble_eq_true rfl), (Nat.le_of_ble_eq_true rfl)⟩ ⟨(Nat.le_of_ble_eq_true rfl), (Nat.le_of_ble_eq_true rfl)⟩ (Nat.le_of_ble_eq_true rfl) rfl (kI_ (F := fun st M' => VV X mX6_pairsOf rX6_pairsOf (pI_ post) 24 [(0, .inr (.inr (some this))), (1, .inr (.inr a1))] st M' 0 0) (fun r9 M10 h => ?_))
  refine vv_iadd (mi := mX6_pairsOf) (pc := 24) dX6_pairsOf_24 ?_
  exact vv_iret (mi := mX6_pairsOf) (pc := 25) dX6_pairsOf_25 rfl (Nat.le_of_ble_eq_true rfl) (Nat.le_of_ble_eq_true rfl) h
set_option maxHeartbeats 4000000 in
set_option maxRecDepth 100000 in
theorem bX6_pairsOn_9 {X : Cx_} {kb9 : Nat → Int32 → Int32 → Int32 → Mm → Prop} {post : Int32 → Mm → Prop} (hb9 : ∀ (this : Nat) (x1 : Int32) (x2 : Int32) (x3 : Int32) (M : Mm), kb9 this x1 x2 x3 M → VV X mX6_pairsOn rX6_pairsOn (pI_ post) 9 [(0, .inr (.inr (some this))), (1, .inl x1), (2, .inl x2), (3, .inl x3)] [] M 0 0) {this : Nat} {x1 : Int32} {x2 : Int32} {x3 : Int32} {M : Mm} (h : BX6_pairsOn_9 kb9 post this x1 x2 x3 M) : VV X mX6_pairsOn rX6_pairsOn (pI_ post) 9 [(0, .inr (.inr (some this))), (1, .inl x1), (2, .inl x2), (3, .inl x3)] [] M 0 0 := by
  unfold BX6_pairsOn_9 at h
  refine vv_iload_n (mi := mX6_pairsOn) (pc := 9) 3 dX6_pairsOn_9 rfl rfl ?_
  refine vv_aload_n (mi := mX6_pairsOn) (pc := 10) 0 dX6_pairsOn_10 rfl rfl ?_
  obtain ⟨ht4, h⟩ := h
  refine vv_getI (mi := mX6_pairsOn) (pc := 11) 6 1 rfl ht4 fl_X6_17 (Nat.le_of_ble_eq_true rfl) dX6_pairsOn_11 ?_
  refine vv_icmp_ge (mi := mX6_pairsOn) (pc := 14) 53 dX6_pairsOn_14 rfl (fun c5 => ?_) (fun c5 => ?_)
  · replace h := h.1 c5
    refine vv_iload_n (mi := mX6_pairsOn) (pc := 53) 2 dX6_pairsOn_53 rfl rfl ?_
    exact vv_iret (mi := mX6_pairsOn) (pc := 54) dX6_pairsOn_54 rfl (Nat.le_of_ble_eq_true rfl) (Nat.le_of_ble_eq_true rfl) h
  · replace h := h.2 c5
    refine vv_aload_n (mi := mX6_pairsOn) (pc := 17) 0 dX6_pairsOn_17 rfl rfl ?_
    refine vv_iload_n (mi := mX6_pairsOn) (pc := 18) 3 dX6_pairsOn_18 rfl rfl ?_
    refine vv_callV (mi := mX6_pairsOn) (pc := 19) (rest := []) (As := [.inl x3]) (ctX6_entryAt (X := X) h) dX6_pairsOn_19 rfl ht4 (Nat.le_of_ble_eq_true rfl) rfl mb_X6_entryAt rfl ml_X6_28 im_X6_entryAt se_X6_entryAt ⟨(Nat.le_of_ble_eq_true rfl), (Nat.le_of_ble_eq_true rfl)⟩ ⟨(Nat.le_of_ble_eq_true rfl), (Nat.le_of_ble_eq_true rfl)⟩ (Nat.le_of_ble_eq_true rfl) rfl (kR_ (F := fun st M' => VV X mX6_pairsOn rX6_pairsOn (pI_ post) 22 [(0, .inr (.inr (some this))), (1, .inl x1), (2, .inl x2), (3, .inl x3)] st M' 0 0) (fun r6 M7 h => ?_))
    refine vv_astore (mi := mX6_pairsOn) (pc := 22) [(4, .inr (.inr r6)), (0, .inr (.inr (some this))), (1, .inl x1), (2, .inl x2), (3, .inl x3)] dX6_pairsOn_22 (Nat.le_of_ble_eq_true rfl) rfl ?_
    refine vv_aload (mi := mX6_pairsOn) (pc := 24) 0 dX6_pairsOn_24 rfl ?_
    refine vv_ifnull (mi := mX6_pairsOn) (pc := 26) 47 dX6_pairsOn_26 rfl (fun c8 => ?_) (fun aq9 c8 => ?_)
    · replace h := h.1 c8
      refine vv_iinc (mi := mX6_pairsOn) (pc := 47) (x3 + 1) 4 [(3, .inl (x3 + 1)), (4, .inr (.inr r6)), (0, .inr (.inr (some this))), (1, .inl x1), (2, .inl x2)] dX6_pairsOn_47 rfl rfl (Nat.le_of_ble_eq_true rfl) rfl ?_
      refine vv_goto (mi := mX6_pairsOn) (pc := 50) 9 dX6_pairsOn_50 rfl ?_
      refine vv_sub (mi := mX6_pairsOn) [(0, .inr (.inr (some this))), (1, .inl x1), (2, .inl x2), (3, .inl (x3 + 1))] [2, 3, 4, 0] rfl ?_
      exact hb9 _ _ _ _ _ h
    · replace h := h.2 aq9 c8
      refine vv_aload (mi := mX6_pairsOn) (pc := 29) 0 dX6_pairsOn_29 rfl ?_
      refine vv_iload_n (mi := mX6_pairsOn) (pc := 31) 2 dX6_pairsOn_31 rfl rfl ?_
      obtain ⟨ht10, h⟩ := h
      refine vv_callV (mi := mX6_pairsOn) (pc := 32) (rest := []) (As := [.inl x1]) (ctX2_isInForce (X := X) h) dX6_pairsOn_32 c8 ht10 (Nat.le_of_ble_eq_true rfl) rfl mb_X2_isInForce rfl ml_X6_104 im_X2_isInForce se_X2_isInForce ⟨(Nat.le_of_ble_eq_true rfl), (Nat.le_of_ble_eq_true rfl)⟩ ⟨(Nat.le_of_ble_eq_true rfl), (Nat.le_of_ble_eq_true rfl)⟩ (Nat.le_of_ble_eq_true rfl) rfl (kI_ (F := fun st M' => VV X mX6_pairsOn rX6_pairsOn (pI_ post) 35 [(4, .inr (.inr r6)), (0, .inr (.inr (some this))), (1, .inl x1), (2, .inl x2), (3, .inl x3)] st M' 0 0) (fun r11 M12 h => ?_))
      refine vv_if_eq (mi := mX6_pairsOn) (pc := 35) 47 dX6_pairsOn_35 rfl (fun c13 => ?_) (fun c13 => ?_)
      · replace h := h.1 c13
        refine vv_iinc (mi := mX6_pairsOn) (pc := 47) (x3 + 1) 4 [(3, .inl (x3 + 1)), (4, .inr (.inr r6)), (0, .inr (.inr (some this))), (1, .inl x1), (2, .inl x2)] dX6_pairsOn_47 rfl rfl (Nat.le_of_ble_eq_true rfl) rfl ?_
        refine vv_goto (mi := mX6_pairsOn) (pc := 50) 9 dX6_pairsOn_50 rfl ?_
        refine vv_sub (mi := mX6_pairsOn) [(0, .inr (.inr (some this))), (1, .inl x1), (2, .inl x2), (3, .inl (x3 + 1))] [2, 3, 4, 0] rfl ?_
        exact hb9 _ _ _ _ _ h
      · replace h := h.2 c13
        refine vv_iload_n (mi := mX6_pairsOn) (pc := 38) 3 dX6_pairsOn_38 rfl rfl ?_
        refine vv_aload_n (mi := mX6_pairsOn) (pc := 39) 1 dX6_pairsOn_39 rfl rfl ?_
        refine vv_aload (mi := mX6_pairsOn) (pc := 40) 0 dX6_pairsOn_40 rfl ?_
        obtain ⟨ht14, h⟩ := h
        refine vv_callV (mi := mX6_pairsOn) (pc := 42) (rest := [.inl x2]) (As := [.inr (.inr r6)]) (ctX6_pairsOf (X := X) h) dX6_pairsOn_42 rfl ht14 (Nat.le_of_ble_eq_true rfl) rfl mb_X6_pairsOf rfl ml_X6_129 im_X6_pairsOf se_X6_pairsOf ⟨(Nat.le_of_ble_eq_true rfl), (Nat.le_of_ble_eq_true rfl)⟩ ⟨(Nat.le_of_ble_eq_true rfl), (Nat.le_of_ble_eq_true rfl)⟩ (Nat.le_of_ble_eq_true rfl) rfl (kI_ (F := fun st M' => VV X mX6_pairsOn rX6_pairsOn (pI_ post) 45 [(4, .inr (.inr r6)), (0, .inr (.inr (some this))), (1, .inl x1), (2, .inl x2), (3, .inl x3)] st M' 0 0) (fun r15 M16 h => ?_))
        refine vv_iadd (mi := mX6_pairsOn) (pc := 45) dX6_pairsOn_45 ?_
        obtain ⟨v17, ev17⟩ : ∃ z : Int32, z = (x2 + r15) := ⟨_, rfl⟩
        refine vv_namI ev17 ?_
        replace h := h _ ev17
        refine vv_istore_n (mi := mX6_pairsOn) (pc := 46) [(2, .inl v17), (4, .inr (.inr r6)), (0, .inr (.inr (some this))), (1, .inl x1), (3, .inl x3)] dX6_pairsOn_46 rfl (Nat.le_of_ble_eq_true rfl) rfl ?_
        refine vv_iinc (mi := mX6_pairsOn) (pc := 47) (x3 + 1) 4 [(3, .inl (x3 + 1)), (2, .inl v17), (4, .inr (.inr r6)), (0, .inr (.inr (some this))), (1, .inl x1)] dX6_pairsOn_47 rfl rfl (Nat.le_of_ble_eq_true rfl) rfl ?_
        refine vv_goto (mi := mX6_pairsOn) (pc := 50) 9 dX6_pairsOn_50 rfl ?_
        refine vv_sub (mi := mX6_pairsOn) [(0, .inr (.inr (some this))), (1, .inl x1), (2, .inl v17), (3, .inl (x3 + 1))] [3, 4, 1, 0] rfl ?_
        exact hb9 _ _ _ _ _ h
theorem loX6_pairsOn_9 {X : Cx_}  {post : Int32 → Mm → Prop}  : ∀ (fu : Nat) {this : Nat} {x1 : Int32} {x2 : Int32} {x3 : Int32} {M : Mm}, DX6_pairsOn_9  post fu this x1 x2 x3 M → VV X mX6_pairsOn rX6_pairsOn (pI_ post) 9 [(0, .inr (.inr (some this))), (1, .inl x1), (2, .inl x2), (3, .inl x3)] [] M 0 0
  | 0, _, _, _, _, _, h => False.elim h
  | fu + 1, _, _, _, _, _, h => bX6_pairsOn_9 (fun this x1 x2 x3 M h => loX6_pairsOn_9  fu h) h
set_option maxHeartbeats 4000000 in
set_option maxRecDepth 100000 in
theorem ctX6_pairsOn {X : Cx_} {this : Nat} {a1 : Int32} {M : Mm} {post : Int32 → Mm → Prop} (h : PX6_pairsOn this a1 M post) : CT X mX6_pairsOn rX6_pairsOn [.inr (.inr (some this)), .inl a1] M (pI_ post) := by
  unfold PX6_pairsOn at h
  refine CT.of (by decide +kernel) (Nat.le_of_ble_eq_true rfl) ?_
  show VV X mX6_pairsOn rX6_pairsOn (pI_ post) 0 [(0, .inr (.inr (some this))), (1, .inl a1)] [] M 0 0
  refine vv_aload_n (mi := mX6_pairsOn) (pc := 0) 0 dX6_pairsOn_0 rfl rfl ?_
  refine vv_iload_n (mi := mX6_pairsOn) (pc := 1) 1 dX6_pairsOn_1 rfl rfl ?_
  obtain ⟨ht1, h⟩ := h
  refine vv_callV (mi := mX6_pairsOn) (pc := 2) (rest := []) (As := [.inl a1]) (ctX6_noteInForce (X := X) h) dX6_pairsOn_2 rfl ht1 (Nat.le_of_ble_eq_true rfl) rfl mb_X6_noteInForce rfl ml_X6_126 im_X6_noteInForce se_X6_noteInForce ⟨(Nat.le_of_ble_eq_true rfl), (Nat.le_of_ble_eq_true rfl)⟩ ⟨(Nat.le_of_ble_eq_true rfl), (Nat.le_of_ble_eq_true rfl)⟩ (Nat.le_of_ble_eq_true rfl) rfl (kV_ (F := fun st M' => VV X mX6_pairsOn rX6_pairsOn (pI_ post) 5 [(0, .inr (.inr (some this))), (1, .inl a1)] st M' 0 0) (fun M3 h => ?_))
  refine vv_iconst (mi := mX6_pairsOn) (pc := 5) 0 dX6_pairsOn_5 rfl ?_
  refine vv_istore_n (mi := mX6_pairsOn) (pc := 6) [(2, .inl 0), (0, .inr (.inr (some this))), (1, .inl a1)] dX6_pairsOn_6 rfl (Nat.le_of_ble_eq_true rfl) rfl ?_
  refine vv_iconst (mi := mX6_pairsOn) (pc := 7) 0 dX6_pairsOn_7 rfl ?_
  refine vv_istore_n (mi := mX6_pairsOn) (pc := 8) [(3, .inl 0), (2, .inl 0), (0, .inr (.inr (some this))), (1, .inl a1)] dX6_pairsOn_8 rfl (Nat.le_of_ble_eq_true rfl) rfl ?_
  refine vv_sub (mi := mX6_pairsOn) [(0, .inr (.inr (some this))), (1, .inl a1), (2, .inl 0), (3, .inl 0)] [2, 3, 1, 0] rfl ?_
  obtain ⟨fu, h⟩ := h
  exact loX6_pairsOn_9 (X := X)  fu h
set_option maxHeartbeats 4000000 in
set_option maxRecDepth 100000 in
theorem bX6_partnerOf_11 {X : Cx_} {kb11 : Nat → (Option Nat) → Int32 → Int32 → Int32 → Mm → Prop} {post : Int32 → Mm → Prop} (hb11 : ∀ (this : Nat) (x1 : Option Nat) (x3 : Int32) (x4 : Int32) (x5 : Int32) (M : Mm), kb11 this x1 x3 x4 x5 M → VV X mX6_partnerOf rX6_partnerOf (pI_ post) 11 [(0, .inr (.inr (some this))), (1, .inr (.inr x1)), (3, .inl x3), (4, .inl x4), (5, .inl x5)] [] M 0 0) {this : Nat} {x1 : Option Nat} {x3 : Int32} {x4 : Int32} {x5 : Int32} {M : Mm} (h : BX6_partnerOf_11 kb11 post this x1 x3 x4 x5 M) : VV X mX6_partnerOf rX6_partnerOf (pI_ post) 11 [(0, .inr (.inr (some this))), (1, .inr (.inr x1)), (3, .inl x3), (4, .inl x4), (5, .inl x5)] [] M 0 0 := by
  unfold BX6_partnerOf_11 at h
  refine vv_iload (mi := mX6_partnerOf) (pc := 11) 4 dX6_partnerOf_11 rfl ?_
  refine vv_aload_n (mi := mX6_partnerOf) (pc := 13) 0 dX6_partnerOf_13 rfl rfl ?_
  obtain ⟨ht5, h⟩ := h
  refine vv_getI (mi := mX6_partnerOf) (pc := 14) 6 1 rfl ht5 fl_X6_17 (Nat.le_of_ble_eq_true rfl) dX6_partnerOf_14 ?_
  refine vv_icmp_ge (mi := mX6_partnerOf) (pc := 17) 68 dX6_partnerOf_17 rfl (fun c6 => ?_) (fun c6 => ?_)
  · replace h := h.1 c6
    refine vv_iconst (mi := mX6_partnerOf) (pc := 68) (-1) dX6_partnerOf_68 rfl ?_
    exact vv_iret (mi := mX6_partnerOf) (pc := 69) dX6_partnerOf_69 rfl (Nat.le_of_ble_eq_true rfl) (Nat.le_of_ble_eq_true rfl) h
  · replace h := h.2 c6
    refine vv_aload_n (mi := mX6_partnerOf) (pc := 20) 0 dX6_partnerOf_20 rfl rfl ?_
    refine vv_iload (mi := mX6_partnerOf) (pc := 21) 4 dX6_partnerOf_21 rfl ?_
    refine vv_callV (mi := mX6_partnerOf) (pc := 23) (rest := []) (As := [.inl x5]) (ctX6_entryAt (X := X) h) dX6_partnerOf_23 rfl ht5 (Nat.le_of_ble_eq_true rfl) rfl mb_X6_entryAt rfl ml_X6_28 im_X6_entryAt se_X6_entryAt ⟨(Nat.le_of_ble_eq_true rfl), (Nat.le_of_ble_eq_true rfl)⟩ ⟨(Nat.le_of_ble_eq_true rfl), (Nat.le_of_ble_eq_true rfl)⟩ (Nat.le_of_ble_eq_true rfl) rfl (kR_ (F := fun st M' => VV X mX6_partnerOf rX6_partnerOf (pI_ post) 26 [(0, .inr (.inr (some this))), (1, .inr (.inr x1)), (3, .inl x3), (4, .inl x4), (5, .inl x5)] st M' 0 0) (fun r7 M8 h => ?_))
    refine vv_astore (mi := mX6_partnerOf) (pc := 26) [(6, .inr (.inr r7)), (0, .inr (.inr (some this))), (1, .inr (.inr x1)), (3, .inl x3), (4, .inl x4), (5, .inl x5)] dX6_partnerOf_26 (Nat.le_of_ble_eq_true rfl) rfl ?_
    refine vv_aload (mi := mX6_partnerOf) (pc := 28) 0 dX6_partnerOf_28 rfl ?_
    refine vv_ifnull (mi := mX6_partnerOf) (pc := 30) 62 dX6_partnerOf_30 rfl (fun c9 => ?_) (fun aq10 c9 => ?_)
    · replace h := h.1 c9
      refine vv_iinc (mi := mX6_partnerOf) (pc := 62) (x5 + 1) 5 [(5, .inl (x5 + 1)), (6, .inr (.inr r7)), (0, .inr (.inr (some this))), (1, .inr (.inr x1)), (3, .inl x3), (4, .inl x4)] dX6_partnerOf_62 rfl rfl (Nat.le_of_ble_eq_true rfl) rfl ?_
      refine vv_goto (mi := mX6_partnerOf) (pc := 65) 11 dX6_partnerOf_65 rfl ?_
      refine vv_sub (mi := mX6_partnerOf) [(0, .inr (.inr (some this))), (1, .inr (.inr x1)), (3, .inl x3), (4, .inl x4), (5, .inl (x5 + 1))] [2, 3, 4, 5, 0] rfl ?_
      exact hb11 _ _ _ _ _ _ h
    · replace h := h.2 aq10 c9
      refine vv_aload_n (mi := mX6_partnerOf) (pc := 33) 2 dX6_partnerOf_33 rfl rfl ?_
      refine vv_iload (mi := mX6_partnerOf) (pc := 34) 5 dX6_partnerOf_34 rfl ?_
      obtain ⟨aq11, hs12, h⟩ := h
      obtain ⟨ht13, h⟩ := h
      refine vv_callV (mi := mX6_partnerOf) (pc := 36) (rest := []) (As := [.inl x5]) (ctX2_hasClash (X := X) h) dX6_partnerOf_36 hs12 ht13 (Nat.le_of_ble_eq_true rfl) rfl mb_X2_hasClash rfl ml_X6_136 im_X2_hasClash se_X2_hasClash ⟨(Nat.le_of_ble_eq_true rfl), (Nat.le_of_ble_eq_true rfl)⟩ ⟨(Nat.le_of_ble_eq_true rfl), (Nat.le_of_ble_eq_true rfl)⟩ (Nat.le_of_ble_eq_true rfl) rfl (kI_ (F := fun st M' => VV X mX6_partnerOf rX6_partnerOf (pI_ post) 39 [(6, .inr (.inr r7)), (0, .inr (.inr (some this))), (1, .inr (.inr x1)), (3, .inl x3), (4, .inl x4), (5, .inl x5)] st M' 0 0) (fun r14 M15 h => ?_))
      refine vv_if_eq (mi := mX6_partnerOf) (pc := 39) 62 dX6_partnerOf_39 rfl (fun c16 => ?_) (fun c16 => ?_)
      · replace h := h.1 c16
        refine vv_iinc (mi := mX6_partnerOf) (pc := 62) (x5 + 1) 5 [(5, .inl (x5 + 1)), (6, .inr (.inr r7)), (0, .inr (.inr (some this))), (1, .inr (.inr x1)), (3, .inl x3), (4, .inl x4)] dX6_partnerOf_62 rfl rfl (Nat.le_of_ble_eq_true rfl) rfl ?_
        refine vv_goto (mi := mX6_partnerOf) (pc := 65) 11 dX6_partnerOf_65 rfl ?_
        refine vv_sub (mi := mX6_partnerOf) [(0, .inr (.inr (some this))), (1, .inr (.inr x1)), (3, .inl x3), (4, .inl x4), (5, .inl (x5 + 1))] [2, 3, 4, 5, 0] rfl ?_
        exact hb11 _ _ _ _ _ _ h
      · replace h := h.2 c16
        refine vv_aload (mi := mX6_partnerOf) (pc := 42) 0 dX6_partnerOf_42 rfl ?_
        refine vv_iload_n (mi := mX6_partnerOf) (pc := 44) 3 dX6_partnerOf_44 rfl rfl ?_
        obtain ⟨ht17, h⟩ := h
        refine vv_callV (mi := mX6_partnerOf) (pc := 45) (rest := []) (As := [.inl x3]) (ctX2_isInForce (X := X) h) dX6_partnerOf_45 c9 ht17 (Nat.le_of_ble_eq_true rfl) rfl mb_X2_isInForce rfl ml_X6_104 im_X2_isInForce se_X2_isInForce ⟨(Nat.le_of_ble_eq_true rfl), (Nat.le_of_ble_eq_true rfl)⟩ ⟨(Nat.le_of_ble_eq_true rfl), (Nat.le_of_ble_eq_true rfl)⟩ (Nat.le_of_ble_eq_true rfl) rfl (kI_ (F := fun st M' => VV X mX6_partnerOf rX6_partnerOf (pI_ post) 48 [(6, .inr (.inr r7)), (0, .inr (.inr (some this))), (1, .inr (.inr x1)), (3, .inl x3), (4, .inl x4), (5, .inl x5)] st M' 0 0) (fun r18 M19 h => ?_))
        refine vv_if_eq (mi := mX6_partnerOf) (pc := 48) 62 dX6_partnerOf_48 rfl (fun c20 => ?_) (fun c20 => ?_)
        · replace h := h.1 c20
          refine vv_iinc (mi := mX6_partnerOf) (pc := 62) (x5 + 1) 5 [(5, .inl (x5 + 1)), (6, .inr (.inr r7)), (0, .inr (.inr (some this))), (1, .inr (.inr x1)), (3, .inl x3), (4, .inl x4)] dX6_partnerOf_62 rfl rfl (Nat.le_of_ble_eq_true rfl) rfl ?_
          refine vv_goto (mi := mX6_partnerOf) (pc := 65) 11 dX6_partnerOf_65 rfl ?_
          refine vv_sub (mi := mX6_partnerOf) [(0, .inr (.inr (some this))), (1, .inr (.inr x1)), (3, .inl x3), (4, .inl x4), (5, .inl (x5 + 1))] [2, 3, 4, 5, 0] rfl ?_
          exact hb11 _ _ _ _ _ _ h
        · replace h := h.2 c20
          refine vv_iload (mi := mX6_partnerOf) (pc := 51) 4 dX6_partnerOf_51 rfl ?_
          refine vv_if_ne (mi := mX6_partnerOf) (pc := 53) 59 dX6_partnerOf_53 rfl (fun c21 => ?_) (fun c21 => ?_)
          · replace h := h.1 c21
            refine vv_iinc (mi := mX6_partnerOf) (pc := 59) (x4 + (-1)) 4 [(4, .inl (x4 + (-1))), (6, .inr (.inr r7)), (0, .inr (.inr (some this))), (1, .inr (.inr x1)), (3, .inl x3), (5, .inl x5)] dX6_partnerOf_59 rfl rfl (Nat.le_of_ble_eq_true rfl) rfl ?_
            refine vv_iinc (mi := mX6_partnerOf) (pc := 62) (x5 + 1) 5 [(5, .inl (x5 + 1)), (4, .inl (x4 + (-1))), (6, .inr (.inr r7)), (0, .inr (.inr (some this))), (1, .inr (.inr x1)), (3, .inl x3)] dX6_partnerOf_62 rfl rfl (Nat.le_of_ble_eq_true rfl) rfl ?_
            refine vv_goto (mi := mX6_partnerOf) (pc := 65) 11 dX6_partnerOf_65 rfl ?_
            refine vv_sub (mi := mX6_partnerOf) [(0, .inr (.inr (some this))), (1, .inr (.inr x1)), (3, .inl x3), (4, .inl (x4 + (-1))), (5, .inl (x5 + 1))] [3, 4, 5, 1, 0] rfl ?_
            exact hb11 _ _ _ _ _ _ h
          · replace h := h.2 c21
            refine vv_iload (mi := mX6_partnerOf) (pc := 56) 5 dX6_partnerOf_56 rfl ?_
            exact vv_iret (mi := mX6_partnerOf) (pc := 58) dX6_partnerOf_58 rfl (Nat.le_of_ble_eq_true rfl) (Nat.le_of_ble_eq_true rfl) h
theorem loX6_partnerOf_11 {X : Cx_}  {post : Int32 → Mm → Prop}  : ∀ (fu : Nat) {this : Nat} {x1 : Option Nat} {x3 : Int32} {x4 : Int32} {x5 : Int32} {M : Mm}, DX6_partnerOf_11  post fu this x1 x3 x4 x5 M → VV X mX6_partnerOf rX6_partnerOf (pI_ post) 11 [(0, .inr (.inr (some this))), (1, .inr (.inr x1)), (3, .inl x3), (4, .inl x4), (5, .inl x5)] [] M 0 0
  | 0, _, _, _, _, _, _, h => False.elim h
  | fu + 1, _, _, _, _, _, _, h => bX6_partnerOf_11 (fun this x1 x3 x4 x5 M h => loX6_partnerOf_11  fu h) h
set_option maxHeartbeats 4000000 in
set_option maxRecDepth 100000 in
theorem ctX6_partnerOf {X : Cx_} {this : Nat} {a1 : Option Nat} {a2 : Int32} {a3 : Int32} {M : Mm} {post : Int32 → Mm → Prop} (h : PX6_partnerOf this a1 a2 a3 M post) : CT X mX6_partnerOf rX6_partnerOf [.inr (.inr (some this)), .inr (.inr a1), .inl a2, .inl a3] M (pI_ post) := by
  unfold PX6_partnerOf at h
  refine CT.of (by decide +kernel) (Nat.le_of_ble_eq_true rfl) ?_
  show VV X mX6_partnerOf rX6_partnerOf (pI_ post) 0 [(0, .inr (.inr (some this))), (1, .inr (.inr a1)), (2, .inl a2), (3, .inl a3)] [] M 0 0
  refine vv_iload_n (mi := mX6_partnerOf) (pc := 0) 2 dX6_partnerOf_0 rfl rfl ?_
  refine vv_istore (mi := mX6_partnerOf) (pc := 1) [(4, .inl a2), (0, .inr (.inr (some this))), (1, .inr (.inr a1)), (2, .inl a2), (3, .inl a3)] dX6_partnerOf_1 (Nat.le_of_ble_eq_true rfl) rfl ?_
  refine vv_aload_n (mi := mX6_partnerOf) (pc := 3) 2 dX6_partnerOf_3 rfl rfl ?_
  obtain ⟨aq1, hs2, h⟩ := h
  obtain ⟨ht3, h⟩ := h
  refine vv_getI (mi := mX6_partnerOf) (pc := 4) 2 9 hs2 ht3 fl_X6_47 (Nat.le_of_ble_eq_true rfl) dX6_partnerOf_4 ?_
  refine vv_iconst (mi := mX6_partnerOf) (pc := 7) 1 dX6_partnerOf_7 rfl ?_
  refine vv_iadd (mi := mX6_partnerOf) (pc := 8) dX6_partnerOf_8 ?_
  obtain ⟨v4, ev4⟩ : ∃ z : Int32, z = ((ddI M aq1 9) + 1) := ⟨_, rfl⟩
  refine vv_namI ev4 ?_
  replace h := h _ ev4
  refine vv_istore (mi := mX6_partnerOf) (pc := 9) [(5, .inl v4), (4, .inl a2), (0, .inr (.inr (some this))), (1, .inr (.inr a1)), (2, .inl a2), (3, .inl a3)] dX6_partnerOf_9 (Nat.le_of_ble_eq_true rfl) rfl ?_
  refine vv_sub (mi := mX6_partnerOf) [(0, .inr (.inr (some this))), (1, .inr (.inr a1)), (3, .inl a3), (4, .inl a2), (5, .inl v4)] [2, 3, 5, 1, 0] rfl ?_
  obtain ⟨fu, h⟩ := h
  exact loX6_partnerOf_11 (X := X)  fu h
set_option maxHeartbeats 4000000 in
set_option maxRecDepth 100000 in
theorem bX6_pairOn_11 {X : Cx_} {kb11 : Nat → Int32 → Int32 → Int32 → Int32 → Mm → Prop} {post : Int32 → Mm → Prop} (hb11 : ∀ (this : Nat) (x1 : Int32) (x3 : Int32) (x4 : Int32) (x5 : Int32) (M : Mm), kb11 this x1 x3 x4 x5 M → VV X mX6_pairOn rX6_pairOn (pI_ post) 11 [(0, .inr (.inr (some this))), (1, .inl x1), (3, .inl x3), (4, .inl x4), (5, .inl x5)] [] M 0 0) {this : Nat} {x1 : Int32} {x3 : Int32} {x4 : Int32} {x5 : Int32} {M : Mm} (h : BX6_pairOn_11 kb11 post this x1 x3 x4 x5 M) : VV X mX6_pairOn rX6_pairOn (pI_ post) 11 [(0, .inr (.inr (some this))), (1, .inl x1), (3, .inl x3), (4, .inl x4), (5, .inl x5)] [] M 0 0 := by
  unfold BX6_pairOn_11 at h
  refine vv_iload (mi := mX6_pairOn) (pc := 11) 4 dX6_pairOn_11 rfl ?_
  refine vv_aload_n (mi := mX6_pairOn) (pc := 13) 0 dX6_pairOn_13 rfl rfl ?_
  obtain ⟨ht4, h⟩ := h
  refine vv_getI (mi := mX6_pairOn) (pc := 14) 6 1 rfl ht4 fl_X6_17 (Nat.le_of_ble_eq_true rfl) dX6_pairOn_14 ?_
  refine vv_icmp_ge (mi := mX6_pairOn) (pc := 17) 89 dX6_pairOn_17 rfl (fun c5 => ?_) (fun c5 => ?_)
  · replace h := h.1 c5
    refine vv_iconst (mi := mX6_pairOn) (pc := 89) (-1) dX6_pairOn_89 rfl ?_
    exact vv_iret (mi := mX6_pairOn) (pc := 90) dX6_pairOn_90 rfl (Nat.le_of_ble_eq_true rfl) (Nat.le_of_ble_eq_true rfl) h
  · replace h := h.2 c5
    refine vv_aload_n (mi := mX6_pairOn) (pc := 20) 0 dX6_pairOn_20 rfl rfl ?_
    refine vv_iload (mi := mX6_pairOn) (pc := 21) 4 dX6_pairOn_21 rfl ?_
    refine vv_callV (mi := mX6_pairOn) (pc := 23) (rest := []) (As := [.inl x5]) (ctX6_entryAt (X := X) h) dX6_pairOn_23 rfl ht4 (Nat.le_of_ble_eq_true rfl) rfl mb_X6_entryAt rfl ml_X6_28 im_X6_entryAt se_X6_entryAt ⟨(Nat.le_of_ble_eq_true rfl), (Nat.le_of_ble_eq_true rfl)⟩ ⟨(Nat.le_of_ble_eq_true rfl), (Nat.le_of_ble_eq_true rfl)⟩ (Nat.le_of_ble_eq_true rfl) rfl (kR_ (F := fun st M' => VV X mX6_pairOn rX6_pairOn (pI_ post) 26 [(0, .inr (.inr (some this))), (1, .inl x1), (3, .inl x3), (4, .inl x4), (5, .inl x5)] st M' 0 0) (fun r6 M7 h => ?_))
    refine vv_astore (mi := mX6_pairOn) (pc := 26) [(6, .inr (.inr r6)), (0, .inr (.inr (some this))), (1, .inl x1), (3, .inl x3), (4, .inl x4), (5, .inl x5)] dX6_pairOn_26 (Nat.le_of_ble_eq_true rfl) rfl ?_
    refine vv_aload (mi := mX6_pairOn) (pc := 28) 0 dX6_pairOn_28 rfl ?_
    refine vv_ifnull (mi := mX6_pairOn) (pc := 30) 83 dX6_pairOn_30 rfl (fun c8 => ?_) (fun aq9 c8 => ?_)
    · replace h := h.1 c8
      refine vv_iinc (mi := mX6_pairOn) (pc := 83) (x5 + 1) 5 [(5, .inl (x5 + 1)), (6, .inr (.inr r6)), (0, .inr (.inr (some this))), (1, .inl x1), (3, .inl x3), (4, .inl x4)] dX6_pairOn_83 rfl rfl (Nat.le_of_ble_eq_true rfl) rfl ?_
      refine vv_goto (mi := mX6_pairOn) (pc := 86) 11 dX6_pairOn_86 rfl ?_
      refine vv_sub (mi := mX6_pairOn) [(0, .inr (.inr (some this))), (1, .inl x1), (3, .inl x3), (4, .inl x4), (5, .inl (x5 + 1))] [2, 3, 4, 5, 0] rfl ?_
      exact hb11 _ _ _ _ _ _ h
    · replace h := h.2 aq9 c8
      refine vv_aload (mi := mX6_pairOn) (pc := 33) 0 dX6_pairOn_33 rfl ?_
      refine vv_iload_n (mi := mX6_pairOn) (pc := 35) 2 dX6_pairOn_35 rfl rfl ?_
      obtain ⟨ht10, h⟩ := h
      refine vv_callV (mi := mX6_pairOn) (pc := 36) (rest := []) (As := [.inl x1]) (ctX2_isInForce (X := X) h) dX6_pairOn_36 c8 ht10 (Nat.le_of_ble_eq_true rfl) rfl mb_X2_isInForce rfl ml_X6_104 im_X2_isInForce se_X2_isInForce ⟨(Nat.le_of_ble_eq_true rfl), (Nat.le_of_ble_eq_true rfl)⟩ ⟨(Nat.le_of_ble_eq_true rfl), (Nat.le_of_ble_eq_true rfl)⟩ (Nat.le_of_ble_eq_true rfl) rfl (kI_ (F := fun st M' => VV X mX6_pairOn rX6_pairOn (pI_ post) 39 [(6, .inr (.inr r6)), (0, .inr (.inr (some this))), (1, .inl x1), (3, .inl x3), (4, .inl x4), (5, .inl x5)] st M' 0 0) (fun r11 M12 h => ?_))
      refine vv_if_eq (mi := mX6_pairOn) (pc := 39) 83 dX6_pairOn_39 rfl (fun c13 => ?_) (fun c13 => ?_)
      · replace h := h.1 c13
        refine vv_iinc (mi := mX6_pairOn) (pc := 83) (x5 + 1) 5 [(5, .inl (x5 + 1)), (6, .inr (.inr r6)), (0, .inr (.inr (some this))), (1, .inl x1), (3, .inl x3), (4, .inl x4)] dX6_pairOn_83 rfl rfl (Nat.le_of_ble_eq_true rfl) rfl ?_
        refine vv_goto (mi := mX6_pairOn) (pc := 86) 11 dX6_pairOn_86 rfl ?_
        refine vv_sub (mi := mX6_pairOn) [(0, .inr (.inr (some this))), (1, .inl x1), (3, .inl x3), (4, .inl x4), (5, .inl (x5 + 1))] [2, 3, 4, 5, 0] rfl ?_
        exact hb11 _ _ _ _ _ _ h
      · replace h := h.2 c13
        refine vv_aload_n (mi := mX6_pairOn) (pc := 42) 1 dX6_pairOn_42 rfl rfl ?_
        refine vv_aload (mi := mX6_pairOn) (pc := 43) 0 dX6_pairOn_43 rfl ?_
        obtain ⟨ht14, h⟩ := h
        refine vv_callV (mi := mX6_pairOn) (pc := 45) (rest := []) (As := [.inr (.inr r6)]) (ctX6_pairsOf (X := X) h) dX6_pairOn_45 rfl ht14 (Nat.le_of_ble_eq_true rfl) rfl mb_X6_pairsOf rfl ml_X6_129 im_X6_pairsOf se_X6_pairsOf ⟨(Nat.le_of_ble_eq_true rfl), (Nat.le_of_ble_eq_true rfl)⟩ ⟨(Nat.le_of_ble_eq_true rfl), (Nat.le_of_ble_eq_true rfl)⟩ (Nat.le_of_ble_eq_true rfl) rfl (kI_ (F := fun st M' => VV X mX6_pairOn rX6_pairOn (pI_ post) 48 [(6, .inr (.inr r6)), (0, .inr (.inr (some this))), (1, .inl x1), (3, .inl x3), (4, .inl x4), (5, .inl x5)] st M' 0 0) (fun r15 M16 h => ?_))
        refine vv_istore (mi := mX6_pairOn) (pc := 48) [(7, .inl r15), (6, .inr (.inr r6)), (0, .inr (.inr (some this))), (1, .inl x1), (3, .inl x3), (4, .inl x4), (5, .inl x5)] dX6_pairOn_48 (Nat.le_of_ble_eq_true rfl) rfl ?_
        refine vv_iload (mi := mX6_pairOn) (pc := 50) 5 dX6_pairOn_50 rfl ?_
        refine vv_iload (mi := mX6_pairOn) (pc := 52) 0 dX6_pairOn_52 rfl ?_
        refine vv_icmp_ge (mi := mX6_pairOn) (pc := 54) 76 dX6_pairOn_54 rfl (fun c17 => ?_) (fun c17 => ?_)
        · replace h := h.1 c17
          refine vv_iload (mi := mX6_pairOn) (pc := 76) 5 dX6_pairOn_76 rfl ?_
          refine vv_iload (mi := mX6_pairOn) (pc := 78) 0 dX6_pairOn_78 rfl ?_
          refine vv_isub (mi := mX6_pairOn) (pc := 80) dX6_pairOn_80 ?_
          obtain ⟨v18, ev18⟩ : ∃ z : Int32, z = (x4 - r15) := ⟨_, rfl⟩
          refine vv_namI ev18 ?_
          replace h := h _ ev18
          refine vv_istore (mi := mX6_pairOn) (pc := 81) [(4, .inl v18), (7, .inl r15), (6, .inr (.inr r6)), (0, .inr (.inr (some this))), (1, .inl x1), (3, .inl x3), (5, .inl x5)] dX6_pairOn_81 (Nat.le_of_ble_eq_true rfl) rfl ?_
          refine vv_iinc (mi := mX6_pairOn) (pc := 83) (x5 + 1) 6 [(5, .inl (x5 + 1)), (4, .inl v18), (7, .inl r15), (6, .inr (.inr r6)), (0, .inr (.inr (some this))), (1, .inl x1), (3, .inl x3)] dX6_pairOn_83 rfl rfl (Nat.le_of_ble_eq_true rfl) rfl ?_
          refine vv_goto (mi := mX6_pairOn) (pc := 86) 11 dX6_pairOn_86 rfl ?_
          refine vv_sub (mi := mX6_pairOn) [(0, .inr (.inr (some this))), (1, .inl x1), (3, .inl x3), (4, .inl v18), (5, .inl (x5 + 1))] [4, 5, 6, 1, 0] rfl ?_
          exact hb11 _ _ _ _ _ _ h
        · replace h := h.2 c17
          refine vv_iload_n (mi := mX6_pairOn) (pc := 57) 4 dX6_pairOn_57 rfl rfl ?_
          refine vv_if_ne (mi := mX6_pairOn) (pc := 58) 66 dX6_pairOn_58 rfl (fun c19 => ?_) (fun c19 => ?_)
          · replace h := h.1 c19
            refine vv_aload_n (mi := mX6_pairOn) (pc := 66) 2 dX6_pairOn_66 rfl rfl ?_
            refine vv_aload (mi := mX6_pairOn) (pc := 67) 1 dX6_pairOn_67 rfl ?_
            refine vv_iload (mi := mX6_pairOn) (pc := 69) 5 dX6_pairOn_69 rfl ?_
            refine vv_iload_n (mi := mX6_pairOn) (pc := 71) 3 dX6_pairOn_71 rfl rfl ?_
            obtain ⟨ht20, h⟩ := h
            refine vv_callV (mi := mX6_pairOn) (pc := 72) (rest := []) (As := [.inr (.inr r6), .inl x4, .inl x1]) (ctX6_partnerOf (X := X) h) dX6_pairOn_72 rfl ht20 (Nat.le_of_ble_eq_true rfl) rfl mb_X6_partnerOf rfl ml_X6_132 im_X6_partnerOf se_X6_partnerOf ⟨(Nat.le_of_ble_eq_true rfl), (Nat.le_of_ble_eq_true rfl)⟩ ⟨(Nat.le_of_ble_eq_true rfl), (Nat.le_of_ble_eq_true rfl)⟩ (Nat.le_of_ble_eq_true rfl) rfl (kI_ (F := fun st M' => VV X mX6_pairOn rX6_pairOn (pI_ post) 75 [(7, .inl r15), (6, .inr (.inr r6)), (0, .inr (.inr (some this))), (1, .inl x1), (3, .inl x3), (4, .inl x4), (5, .inl x5)] st M' 0 0) (fun r21 M22 h => ?_))
            exact vv_iret (mi := mX6_pairOn) (pc := 75) dX6_pairOn_75 rfl (Nat.le_of_ble_eq_true rfl) (Nat.le_of_ble_eq_true rfl) h
          · replace h := h.2 c19
            refine vv_iload (mi := mX6_pairOn) (pc := 61) 6 dX6_pairOn_61 rfl ?_
            refine vv_goto (mi := mX6_pairOn) (pc := 63) 75 dX6_pairOn_63 rfl ?_
            exact vv_iret (mi := mX6_pairOn) (pc := 75) dX6_pairOn_75 rfl (Nat.le_of_ble_eq_true rfl) (Nat.le_of_ble_eq_true rfl) h
theorem loX6_pairOn_11 {X : Cx_}  {post : Int32 → Mm → Prop}  : ∀ (fu : Nat) {this : Nat} {x1 : Int32} {x3 : Int32} {x4 : Int32} {x5 : Int32} {M : Mm}, DX6_pairOn_11  post fu this x1 x3 x4 x5 M → VV X mX6_pairOn rX6_pairOn (pI_ post) 11 [(0, .inr (.inr (some this))), (1, .inl x1), (3, .inl x3), (4, .inl x4), (5, .inl x5)] [] M 0 0
  | 0, _, _, _, _, _, _, h => False.elim h
  | fu + 1, _, _, _, _, _, _, h => bX6_pairOn_11 (fun this x1 x3 x4 x5 M h => loX6_pairOn_11  fu h) h
set_option maxHeartbeats 4000000 in
set_option maxRecDepth 100000 in
theorem ctX6_pairOn {X : Cx_} {this : Nat} {a1 : Int32} {a2 : Int32} {a3 : Int32} {M : Mm} {post : Int32 → Mm → Prop} (h : PX6_pairOn this a1 a2 a3 M post) : CT X mX6_pairOn rX6_pairOn [.inr (.inr (some this)), .inl a1, .inl a2, .inl a3] M (pI_ post) := by
  unfold PX6_pairOn at h
  refine CT.of (by decide +kernel) (Nat.le_of_ble_eq_true rfl) ?_
  show VV X mX6_pairOn rX6_pairOn (pI_ post) 0 [(0, .inr (.inr (some this))), (1, .inl a1), (2, .inl a2), (3, .inl a3)] [] M 0 0
  refine vv_aload_n (mi := mX6_pairOn) (pc := 0) 0 dX6_pairOn_0 rfl rfl ?_
  refine vv_iload_n (mi := mX6_pairOn) (pc := 1) 1 dX6_pairOn_1 rfl rfl ?_
  obtain ⟨ht1, h⟩ := h
  refine vv_callV (mi := mX6_pairOn) (pc := 2) (rest := []) (As := [.inl a1]) (ctX6_noteInForce (X := X) h) dX6_pairOn_2 rfl ht1 (Nat.le_of_ble_eq_true rfl) rfl mb_X6_noteInForce rfl ml_X6_126 im_X6_noteInForce se_X6_noteInForce ⟨(Nat.le_of_ble_eq_true rfl), (Nat.le_of_ble_eq_true rfl)⟩ ⟨(Nat.le_of_ble_eq_true rfl), (Nat.le_of_ble_eq_true rfl)⟩ (Nat.le_of_ble_eq_true rfl) rfl (kV_ (F := fun st M' => VV X mX6_pairOn rX6_pairOn (pI_ post) 5 [(0, .inr (.inr (some this))), (1, .inl a1), (2, .inl a2), (3, .inl a3)] st M' 0 0) (fun M3 h => ?_))
  refine vv_iload_n (mi := mX6_pairOn) (pc := 5) 2 dX6_pairOn_5 rfl rfl ?_
  refine vv_istore (mi := mX6_pairOn) (pc := 6) [(4, .inl a2), (0, .inr (.inr (some this))), (1, .inl a1), (2, .inl a2), (3, .inl a3)] dX6_pairOn_6 (Nat.le_of_ble_eq_true rfl) rfl ?_
  refine vv_iconst (mi := mX6_pairOn) (pc := 8) 0 dX6_pairOn_8 rfl ?_
  refine vv_istore (mi := mX6_pairOn) (pc := 9) [(5, .inl 0), (4, .inl a2), (0, .inr (.inr (some this))), (1, .inl a1), (2, .inl a2), (3, .inl a3)] dX6_pairOn_9 (Nat.le_of_ble_eq_true rfl) rfl ?_
  refine vv_sub (mi := mX6_pairOn) [(0, .inr (.inr (some this))), (1, .inl a1), (3, .inl a3), (4, .inl a2), (5, .inl 0)] [2, 3, 5, 1, 0] rfl ?_
  obtain ⟨fu, h⟩ := h
  exact loX6_pairOn_11 (X := X)  fu h
set_option maxHeartbeats 4000000 in
set_option maxRecDepth 100000 in
theorem ctX6_rankOf {X : Cx_} {a1 : Int32} {M : Mm} {post : Int32 → Mm → Prop} (h : PX6_rankOf a1 M post) : CT X mX6_rankOf rX6_rankOf [.inl a1] M (pI_ post) := by
  unfold PX6_rankOf at h
  refine CT.of (by decide +kernel) (Nat.le_of_ble_eq_true rfl) ?_
  show VV X mX6_rankOf rX6_rankOf (pI_ post) 0 [(0, .inl a1)] [] M 0 0
  refine vv_iload_n (mi := mX6_rankOf) (pc := 0) 0 dX6_rankOf_0 rfl rfl ?_
  refine vv_tsw (mi := mX6_rankOf) (pc := 1) 38 [34, 32, 38, 36] dX6_rankOf_1 rfl rfl rfl (fun j t c1 c1e => ?_) (fun c1 => ?_)
  · match j, c1, c1e with
    | 0, c1, c1e =>
      cases c1
      replace h := h.1 c1e
      refine vv_iconst (mi := mX6_rankOf) (pc := 34) 1 dX6_rankOf_34 rfl ?_
      exact vv_iret (mi := mX6_rankOf) (pc := 35) dX6_rankOf_35 rfl (Nat.le_of_ble_eq_true rfl) (Nat.le_of_ble_eq_true rfl) h
    | 1, c1, c1e =>
      cases c1
      replace h := h.2.1 c1e
      refine vv_iconst (mi := mX6_rankOf) (pc := 32) 0 dX6_rankOf_32 rfl ?_
      exact vv_iret (mi := mX6_rankOf) (pc := 33) dX6_rankOf_33 rfl (Nat.le_of_ble_eq_true rfl) (Nat.le_of_ble_eq_true rfl) h
    | 2, c1, c1e =>
      cases c1
      replace h := h.2.2.1 c1e
      refine vv_iconst (mi := mX6_rankOf) (pc := 38) 3 dX6_rankOf_38 rfl ?_
      exact vv_iret (mi := mX6_rankOf) (pc := 39) dX6_rankOf_39 rfl (Nat.le_of_ble_eq_true rfl) (Nat.le_of_ble_eq_true rfl) h
    | 3, c1, c1e =>
      cases c1
      replace h := h.2.2.2.1 c1e
      refine vv_iconst (mi := mX6_rankOf) (pc := 36) 2 dX6_rankOf_36 rfl ?_
      exact vv_iret (mi := mX6_rankOf) (pc := 37) dX6_rankOf_37 rfl (Nat.le_of_ble_eq_true rfl) (Nat.le_of_ble_eq_true rfl) h
    | (j + 4), c1, _ => exact absurd c1 (by simp)
  · replace h := h.2.2.2.2 c1
    refine vv_iconst (mi := mX6_rankOf) (pc := 38) 3 dX6_rankOf_38 rfl ?_
    exact vv_iret (mi := mX6_rankOf) (pc := 39) dX6_rankOf_39 rfl (Nat.le_of_ble_eq_true rfl) (Nat.le_of_ble_eq_true rfl) h
set_option maxHeartbeats 4000000 in
set_option maxRecDepth 100000 in
theorem bX6_leadOf_6 {X : Cx_} {kb6 : Nat → Int64 → Int32 → Int32 → (Option Nat) → Int32 → Mm → Prop} {post : Option Nat → Mm → Prop} (hb6 : ∀ (this : Nat) (x1 : Int64) (x3 : Int32) (x4 : Int32) (x5 : Option Nat) (x6 : Int32) (M : Mm), kb6 this x1 x3 x4 x5 x6 M → VV X mX6_leadOf rX6_leadOf (pR_ post) 6 [(0, .inr (.inr (some this))), (1, .inr (.inl x1)), (3, .inl x3), (4, .inl x4), (5, .inr (.inr x5)), (6, .inl x6)] [] M 0 0) {this : Nat} {x1 : Int64} {x3 : Int32} {x4 : Int32} {x5 : Option Nat} {x6 : Int32} {M : Mm} (h : BX6_leadOf_6 kb6 post this x1 x3 x4 x5 x6 M) : VV X mX6_leadOf rX6_leadOf (pR_ post) 6 [(0, .inr (.inr (some this))), (1, .inr (.inl x1)), (3, .inl x3), (4, .inl x4), (5, .inr (.inr x5)), (6, .inl x6)] [] M 0 0 := by
  unfold BX6_leadOf_6 at h
  refine vv_iload (mi := mX6_leadOf) (pc := 6) 5 dX6_leadOf_6 rfl ?_
  refine vv_aload_n (mi := mX6_leadOf) (pc := 8) 0 dX6_leadOf_8 rfl rfl ?_
  obtain ⟨ht1, h⟩ := h
  refine vv_getI (mi := mX6_leadOf) (pc := 9) 6 1 rfl ht1 fl_X6_17 (Nat.le_of_ble_eq_true rfl) dX6_leadOf_9 ?_
  refine vv_icmp_ge (mi := mX6_leadOf) (pc := 12) 82 dX6_leadOf_12 rfl (fun c2 => ?_) (fun c2 => ?_)
  · replace h := h.1 c2
    refine vv_aload (mi := mX6_leadOf) (pc := 82) 4 dX6_leadOf_82 rfl ?_
    exact vv_aret (mi := mX6_leadOf) (pc := 84) dX6_leadOf_84 rfl (Nat.le_of_ble_eq_true rfl) (Nat.le_of_ble_eq_true rfl) h
  · replace h := h.2 c2
    refine vv_aload_n (mi := mX6_leadOf) (pc := 15) 0 dX6_leadOf_15 rfl rfl ?_
    refine vv_iload (mi := mX6_leadOf) (pc := 16) 5 dX6_leadOf_16 rfl ?_
    refine vv_callV (mi := mX6_leadOf) (pc := 18) (rest := []) (As := [.inl x6]) (ctX6_entryAt (X := X) h) dX6_leadOf_18 rfl ht1 (Nat.le_of_ble_eq_true rfl) rfl mb_X6_entryAt rfl ml_X6_28 im_X6_entryAt se_X6_entryAt ⟨(Nat.le_of_ble_eq_true rfl), (Nat.le_of_ble_eq_true rfl)⟩ ⟨(Nat.le_of_ble_eq_true rfl), (Nat.le_of_ble_eq_true rfl)⟩ (Nat.le_of_ble_eq_true rfl) rfl (kR_ (F := fun st M' => VV X mX6_leadOf rX6_leadOf (pR_ post) 21 [(0, .inr (.inr (some this))), (1, .inr (.inl x1)), (3, .inl x3), (4, .inl x4), (5, .inr (.inr x5)), (6, .inl x6)] st M' 0 0) (fun r3 M4 h => ?_))
    refine vv_astore (mi := mX6_leadOf) (pc := 21) [(7, .inr (.inr r3)), (0, .inr (.inr (some this))), (1, .inr (.inl x1)), (3, .inl x3), (4, .inl x4), (5, .inr (.inr x5)), (6, .inl x6)] dX6_leadOf_21 (Nat.le_of_ble_eq_true rfl) rfl ?_
    refine vv_aload (mi := mX6_leadOf) (pc := 23) 0 dX6_leadOf_23 rfl ?_
    refine vv_ifnull (mi := mX6_leadOf) (pc := 25) 76 dX6_leadOf_25 rfl (fun c5 => ?_) (fun aq6 c5 => ?_)
    · replace h := h.1 c5
      refine vv_iinc (mi := mX6_leadOf) (pc := 76) (x6 + 1) 6 [(6, .inl (x6 + 1)), (7, .inr (.inr r3)), (0, .inr (.inr (some this))), (1, .inr (.inl x1)), (3, .inl x3), (4, .inl x4), (5, .inr (.inr x5))] dX6_leadOf_76 rfl rfl (Nat.le_of_ble_eq_true rfl) rfl ?_
      refine vv_goto (mi := mX6_leadOf) (pc := 79) 6 dX6_leadOf_79 rfl ?_
      refine vv_sub (mi := mX6_leadOf) [(0, .inr (.inr (some this))), (1, .inr (.inl x1)), (3, .inl x3), (4, .inl x4), (5, .inr (.inr x5)), (6, .inl (x6 + 1))] [2, 3, 4, 5, 6, 0] rfl ?_
      exact hb6 _ _ _ _ _ _ _ h
    · replace h := h.2 aq6 c5
      refine vv_aload (mi := mX6_leadOf) (pc := 28) 0 dX6_leadOf_28 rfl ?_
      refine vv_iload (mi := mX6_leadOf) (pc := 30) 4 dX6_leadOf_30 rfl ?_
      obtain ⟨ht7, h⟩ := h
      refine vv_callV (mi := mX6_leadOf) (pc := 32) (rest := []) (As := [.inl x4]) (ctX2_isInForce (X := X) h) dX6_leadOf_32 c5 ht7 (Nat.le_of_ble_eq_true rfl) rfl mb_X2_isInForce rfl ml_X6_104 im_X2_isInForce se_X2_isInForce ⟨(Nat.le_of_ble_eq_true rfl), (Nat.le_of_ble_eq_true rfl)⟩ ⟨(Nat.le_of_ble_eq_true rfl), (Nat.le_of_ble_eq_true rfl)⟩ (Nat.le_of_ble_eq_true rfl) rfl (kI_ (F := fun st M' => VV X mX6_leadOf rX6_leadOf (pR_ post) 35 [(7, .inr (.inr r3)), (0, .inr (.inr (some this))), (1, .inr (.inl x1)), (3, .inl x3), (4, .inl x4), (5, .inr (.inr x5)), (6, .inl x6)] st M' 0 0) (fun r8 M9 h => ?_))
      refine vv_if_eq (mi := mX6_leadOf) (pc := 35) 76 dX6_leadOf_35 rfl (fun c10 => ?_) (fun c10 => ?_)
      · replace h := h.1 c10
        refine vv_iinc (mi := mX6_leadOf) (pc := 76) (x6 + 1) 6 [(6, .inl (x6 + 1)), (7, .inr (.inr r3)), (0, .inr (.inr (some this))), (1, .inr (.inl x1)), (3, .inl x3), (4, .inl x4), (5, .inr (.inr x5))] dX6_leadOf_76 rfl rfl (Nat.le_of_ble_eq_true rfl) rfl ?_
        refine vv_goto (mi := mX6_leadOf) (pc := 79) 6 dX6_leadOf_79 rfl ?_
        refine vv_sub (mi := mX6_leadOf) [(0, .inr (.inr (some this))), (1, .inr (.inl x1)), (3, .inl x3), (4, .inl x4), (5, .inr (.inr x5)), (6, .inl (x6 + 1))] [2, 3, 4, 5, 6, 0] rfl ?_
        exact hb6 _ _ _ _ _ _ _ h
      · replace h := h.2 c10
        refine vv_aload (mi := mX6_leadOf) (pc := 38) 0 dX6_leadOf_38 rfl ?_
        refine vv_lload_n (mi := mX6_leadOf) (pc := 40) 2 dX6_leadOf_40 rfl rfl ?_
        refine vv_iload_n (mi := mX6_leadOf) (pc := 41) 3 dX6_leadOf_41 rfl rfl ?_
        obtain ⟨ht11, h⟩ := h
        refine vv_callV (mi := mX6_leadOf) (pc := 42) (rest := []) (As := [.inr (.inl x1), .inl x3]) (ctX2_hasNumber (X := X) h) dX6_leadOf_42 c5 ht11 (Nat.le_of_ble_eq_true rfl) rfl mb_X2_hasNumber rfl ml_X6_139 im_X2_hasNumber se_X2_hasNumber ⟨(Nat.le_of_ble_eq_true rfl), (Nat.le_of_ble_eq_true rfl)⟩ ⟨(Nat.le_of_ble_eq_true rfl), (Nat.le_of_ble_eq_true rfl)⟩ (Nat.le_of_ble_eq_true rfl) rfl (kI_ (F := fun st M' => VV X mX6_leadOf rX6_leadOf (pR_ post) 45 [(7, .inr (.inr r3)), (0, .inr (.inr (some this))), (1, .inr (.inl x1)), (3, .inl x3), (4, .inl x4), (5, .inr (.inr x5)), (6, .inl x6)] st M' 0 0) (fun r12 M13 h => ?_))
        refine vv_if_eq (mi := mX6_leadOf) (pc := 45) 76 dX6_leadOf_45 rfl (fun c14 => ?_) (fun c14 => ?_)
        · replace h := h.1 c14
          refine vv_iinc (mi := mX6_leadOf) (pc := 76) (x6 + 1) 6 [(6, .inl (x6 + 1)), (7, .inr (.inr r3)), (0, .inr (.inr (some this))), (1, .inr (.inl x1)), (3, .inl x3), (4, .inl x4), (5, .inr (.inr x5))] dX6_leadOf_76 rfl rfl (Nat.le_of_ble_eq_true rfl) rfl ?_
          refine vv_goto (mi := mX6_leadOf) (pc := 79) 6 dX6_leadOf_79 rfl ?_
          refine vv_sub (mi := mX6_leadOf) [(0, .inr (.inr (some this))), (1, .inr (.inl x1)), (3, .inl x3), (4, .inl x4), (5, .inr (.inr x5)), (6, .inl (x6 + 1))] [2, 3, 4, 5, 6, 0] rfl ?_
          exact hb6 _ _ _ _ _ _ _ h
        · replace h := h.2 c14
          refine vv_aload (mi := mX6_leadOf) (pc := 48) 5 dX6_leadOf_48 rfl ?_
          refine vv_ifnull (mi := mX6_leadOf) (pc := 50) 72 dX6_leadOf_50 rfl (fun c15 => ?_) (fun aq16 c15 => ?_)
          · replace h := h.1 c15
            refine vv_aload (mi := mX6_leadOf) (pc := 72) 0 dX6_leadOf_72 rfl ?_
            refine vv_astore (mi := mX6_leadOf) (pc := 74) [(5, .inr (.inr r3)), (7, .inr (.inr r3)), (0, .inr (.inr (some this))), (1, .inr (.inl x1)), (3, .inl x3), (4, .inl x4), (6, .inl x6)] dX6_leadOf_74 (Nat.le_of_ble_eq_true rfl) rfl ?_
            refine vv_iinc (mi := mX6_leadOf) (pc := 76) (x6 + 1) 6 [(6, .inl (x6 + 1)), (5, .inr (.inr r3)), (7, .inr (.inr r3)), (0, .inr (.inr (some this))), (1, .inr (.inl x1)), (3, .inl x3), (4, .inl x4)] dX6_leadOf_76 rfl rfl (Nat.le_of_ble_eq_true rfl) rfl ?_
            refine vv_goto (mi := mX6_leadOf) (pc := 79) 6 dX6_leadOf_79 rfl ?_
            refine vv_sub (mi := mX6_leadOf) [(0, .inr (.inr (some this))), (1, .inr (.inl x1)), (3, .inl x3), (4, .inl x4), (5, .inr (.inr r3)), (6, .inl (x6 + 1))] [3, 4, 5, 6, 1, 0] rfl ?_
            exact hb6 _ _ _ _ _ _ _ h
          · replace h := h.2 aq16 c15
            refine vv_aload (mi := mX6_leadOf) (pc := 53) 0 dX6_leadOf_53 rfl ?_
            obtain ⟨ht17, h⟩ := h
            refine vv_getI (mi := mX6_leadOf) (pc := 55) 2 0 c5 ht17 fl_X6_32 (Nat.le_of_ble_eq_true rfl) dX6_leadOf_55 ?_
            refine vv_callS (mi := mX6_leadOf) (pc := 58) (rest := []) (As := [.inl (ddI M13 aq6 0)]) (ctX6_rankOf (X := X) h) dX6_leadOf_58 mb_X6_rankOf rfl ml_X6_143 sc_X6_rankOf ⟨(Nat.le_of_ble_eq_true rfl), (Nat.le_of_ble_eq_true rfl)⟩ ⟨(Nat.le_of_ble_eq_true rfl), (Nat.le_of_ble_eq_true rfl)⟩ (Nat.le_of_ble_eq_true rfl) rfl (kI_ (F := fun st M' => VV X mX6_leadOf rX6_leadOf (pR_ post) 61 [(7, .inr (.inr r3)), (0, .inr (.inr (some this))), (1, .inr (.inl x1)), (3, .inl x3), (4, .inl x4), (5, .inr (.inr x5)), (6, .inl x6)] st M' 0 0) (fun r18 M19 h => ?_))
            refine vv_aload (mi := mX6_leadOf) (pc := 61) 5 dX6_leadOf_61 rfl ?_
            obtain ⟨ht20, h⟩ := h
            refine vv_getI (mi := mX6_leadOf) (pc := 63) 2 0 c15 ht20 fl_X6_32 (Nat.le_of_ble_eq_true rfl) dX6_leadOf_63 ?_
            refine vv_callS (mi := mX6_leadOf) (pc := 66) (rest := [.inl r18]) (As := [.inl (ddI M19 aq16 0)]) (ctX6_rankOf (X := X) h) dX6_leadOf_66 mb_X6_rankOf rfl ml_X6_143 sc_X6_rankOf ⟨(Nat.le_of_ble_eq_true rfl), (Nat.le_of_ble_eq_true rfl)⟩ ⟨(Nat.le_of_ble_eq_true rfl), (Nat.le_of_ble_eq_true rfl)⟩ (Nat.le_of_ble_eq_true rfl) rfl (kI_ (F := fun st M' => VV X mX6_leadOf rX6_leadOf (pR_ post) 69 [(7, .inr (.inr r3)), (0, .inr (.inr (some this))), (1, .inr (.inl x1)), (3, .inl x3), (4, .inl x4), (5, .inr (.inr x5)), (6, .inl x6)] st M' 0 0) (fun r21 M22 h => ?_))
            refine vv_icmp_ge (mi := mX6_leadOf) (pc := 69) 76 dX6_leadOf_69 rfl (fun c23 => ?_) (fun c23 => ?_)
            · replace h := h.1 c23
              refine vv_iinc (mi := mX6_leadOf) (pc := 76) (x6 + 1) 6 [(6, .inl (x6 + 1)), (7, .inr (.inr r3)), (0, .inr (.inr (some this))), (1, .inr (.inl x1)), (3, .inl x3), (4, .inl x4), (5, .inr (.inr x5))] dX6_leadOf_76 rfl rfl (Nat.le_of_ble_eq_true rfl) rfl ?_
              refine vv_goto (mi := mX6_leadOf) (pc := 79) 6 dX6_leadOf_79 rfl ?_
              refine vv_sub (mi := mX6_leadOf) [(0, .inr (.inr (some this))), (1, .inr (.inl x1)), (3, .inl x3), (4, .inl x4), (5, .inr (.inr x5)), (6, .inl (x6 + 1))] [2, 3, 4, 5, 6, 0] rfl ?_
              exact hb6 _ _ _ _ _ _ _ h
            · replace h := h.2 c23
              refine vv_aload (mi := mX6_leadOf) (pc := 72) 0 dX6_leadOf_72 rfl ?_
              refine vv_astore (mi := mX6_leadOf) (pc := 74) [(5, .inr (.inr r3)), (7, .inr (.inr r3)), (0, .inr (.inr (some this))), (1, .inr (.inl x1)), (3, .inl x3), (4, .inl x4), (6, .inl x6)] dX6_leadOf_74 (Nat.le_of_ble_eq_true rfl) rfl ?_
              refine vv_iinc (mi := mX6_leadOf) (pc := 76) (x6 + 1) 6 [(6, .inl (x6 + 1)), (5, .inr (.inr r3)), (7, .inr (.inr r3)), (0, .inr (.inr (some this))), (1, .inr (.inl x1)), (3, .inl x3), (4, .inl x4)] dX6_leadOf_76 rfl rfl (Nat.le_of_ble_eq_true rfl) rfl ?_
              refine vv_goto (mi := mX6_leadOf) (pc := 79) 6 dX6_leadOf_79 rfl ?_
              refine vv_sub (mi := mX6_leadOf) [(0, .inr (.inr (some this))), (1, .inr (.inl x1)), (3, .inl x3), (4, .inl x4), (5, .inr (.inr r3)), (6, .inl (x6 + 1))] [3, 4, 5, 6, 1, 0] rfl ?_
              exact hb6 _ _ _ _ _ _ _ h
theorem loX6_leadOf_6 {X : Cx_}  {post : Option Nat → Mm → Prop}  : ∀ (fu : Nat) {this : Nat} {x1 : Int64} {x3 : Int32} {x4 : Int32} {x5 : Option Nat} {x6 : Int32} {M : Mm}, DX6_leadOf_6  post fu this x1 x3 x4 x5 x6 M → VV X mX6_leadOf rX6_leadOf (pR_ post) 6 [(0, .inr (.inr (some this))), (1, .inr (.inl x1)), (3, .inl x3), (4, .inl x4), (5, .inr (.inr x5)), (6, .inl x6)] [] M 0 0
  | 0, _, _, _, _, _, _, _, h => False.elim h
  | fu + 1, _, _, _, _, _, _, _, h => bX6_leadOf_6 (fun this x1 x3 x4 x5 x6 M h => loX6_leadOf_6  fu h) h
set_option maxHeartbeats 4000000 in
set_option maxRecDepth 100000 in
theorem ctX6_leadOf {X : Cx_} {this : Nat} {a1 : Int64} {a2 : Int32} {a3 : Int32} {M : Mm} {post : Option Nat → Mm → Prop} (h : PX6_leadOf this a1 a2 a3 M post) : CT X mX6_leadOf rX6_leadOf [.inr (.inr (some this)), .inr (.inl a1), .inl a2, .inl a3] M (pR_ post) := by
  unfold PX6_leadOf at h
  refine CT.of (by decide +kernel) (Nat.le_of_ble_eq_true rfl) ?_
  show VV X mX6_leadOf rX6_leadOf (pR_ post) 0 [(0, .inr (.inr (some this))), (1, .inr (.inl a1)), (3, .inl a2), (4, .inl a3)] [] M 0 0
  refine vv_null (mi := mX6_leadOf) (pc := 0) dX6_leadOf_0 ?_
  refine vv_astore (mi := mX6_leadOf) (pc := 1) [(5, .inr (.inr none)), (0, .inr (.inr (some this))), (1, .inr (.inl a1)), (3, .inl a2), (4, .inl a3)] dX6_leadOf_1 (Nat.le_of_ble_eq_true rfl) rfl ?_
  refine vv_iconst (mi := mX6_leadOf) (pc := 3) 0 dX6_leadOf_3 rfl ?_
  refine vv_istore (mi := mX6_leadOf) (pc := 4) [(6, .inl 0), (5, .inr (.inr none)), (0, .inr (.inr (some this))), (1, .inr (.inl a1)), (3, .inl a2), (4, .inl a3)] dX6_leadOf_4 (Nat.le_of_ble_eq_true rfl) rfl ?_
  refine vv_sub (mi := mX6_leadOf) [(0, .inr (.inr (some this))), (1, .inr (.inl a1)), (3, .inl a2), (4, .inl a3), (5, .inr (.inr none)), (6, .inl 0)] [2, 3, 4, 5, 1, 0] rfl ?_
  obtain ⟨fu, h⟩ := h
  exact loX6_leadOf_6 (X := X)  fu h
set_option maxHeartbeats 4000000 in
set_option maxRecDepth 100000 in
theorem ctX8_clear {X : Cx_} {this : Nat} {M : Mm} {post : Mm → Prop} (h : PX8_clear this M post) : CT X mX8_clear rX8_clear [.inr (.inr (some this))] M (pV_ post) := by
  unfold PX8_clear at h
  refine CT.of (by decide +kernel) (Nat.le_of_ble_eq_true rfl) ?_
  show VV X mX8_clear rX8_clear (pV_ post) 0 [(0, .inr (.inr (some this)))] [] M 0 0
  refine vv_aload_n (mi := mX8_clear) (pc := 0) 0 dX8_clear_0 rfl rfl ?_
  refine vv_iconst (mi := mX8_clear) (pc := 1) 0 dX8_clear_1 rfl ?_
  obtain ⟨ht1, h⟩ := h
  obtain ⟨M2, eM2⟩ : ∃ z : Mm, z = suI M this 0 0 := ⟨_, rfl⟩
  replace h := h _ eM2
  refine vv_putZ (mi := mX8_clear) (pc := 2) 8 0 (Or.inl rfl) rfl ht1 fq_X8_9 (fun q => by cases q) rfl (Nat.le_of_ble_eq_true rfl) dX8_clear_2 eM2 ?_
  refine vv_aload_n (mi := mX8_clear) (pc := 5) 0 dX8_clear_5 rfl rfl ?_
  refine vv_iconst (mi := mX8_clear) (pc := 6) 0 dX8_clear_6 rfl ?_
  obtain ⟨M3, eM3⟩ : ∃ z : Mm, z = suI M2 this 1 0 := ⟨_, rfl⟩
  replace h := h _ eM3
  refine vv_putI (mi := mX8_clear) (pc := 7) 8 1 rfl (tgI_ eM2 ht1) fq_X8_15 (fun q => by cases q) rfl (Nat.le_of_ble_eq_true rfl) dX8_clear_7 eM3 ?_
  refine vv_aload_n (mi := mX8_clear) (pc := 10) 0 dX8_clear_10 rfl rfl ?_
  refine vv_iconst (mi := mX8_clear) (pc := 11) (-1) dX8_clear_11 rfl ?_
  obtain ⟨M4, eM4⟩ : ∃ z : Mm, z = suI M3 this 2 (-1) := ⟨_, rfl⟩
  replace h := h _ eM4
  refine vv_putI (mi := mX8_clear) (pc := 12) 8 2 rfl (tgI_ eM3 (tgI_ eM2 ht1)) fq_X8_19 (fun q => by cases q) rfl (Nat.le_of_ble_eq_true rfl) dX8_clear_12 eM4 ?_
  refine vv_aload_n (mi := mX8_clear) (pc := 15) 0 dX8_clear_15 rfl rfl ?_
  refine vv_iconst (mi := mX8_clear) (pc := 16) (-1) dX8_clear_16 rfl ?_
  obtain ⟨M5, eM5⟩ : ∃ z : Mm, z = suI M4 this 3 (-1) := ⟨_, rfl⟩
  replace h := h _ eM5
  refine vv_putI (mi := mX8_clear) (pc := 17) 8 3 rfl (tgI_ eM4 (tgI_ eM3 (tgI_ eM2 ht1))) fq_X8_22 (fun q => by cases q) rfl (Nat.le_of_ble_eq_true rfl) dX8_clear_17 eM5 ?_
  exact vv_vret (mi := mX8_clear) (pc := 20) dX8_clear_20 rfl (Nat.le_of_ble_eq_true rfl) (Nat.le_of_ble_eq_true rfl) h
set_option maxHeartbeats 4000000 in
set_option maxRecDepth 100000 in
theorem ctJ9_max_7cf53 {X : Cx_} {a1 : Int32} {a2 : Int32} {M : Mm} {post : Int32 → Mm → Prop} (h : PJ9_max_7cf53 a1 a2 M post) : CT X mJ9_max_7cf53 rJ9_max_7cf53 [.inl a1, .inl a2] M (pI_ post) := by
  unfold PJ9_max_7cf53 at h
  refine CT.ofF (by decide +kernel) (Nat.le_of_ble_eq_true rfl) ?_
  show VV X mJ9_max_7cf53 rJ9_max_7cf53 (pI_ post) 0 [(0, .inl a1), (1, .inl a2)] [] M 0 0
  refine vv_iload_n (mi := mJ9_max_7cf53) (pc := 0) 0 dJ9_max_7cf53_0 rfl rfl ?_
  refine vv_iload_n (mi := mJ9_max_7cf53) (pc := 1) 1 dJ9_max_7cf53_1 rfl rfl ?_
  refine vv_icmp_lt (mi := mJ9_max_7cf53) (pc := 2) 9 dJ9_max_7cf53_2 rfl (fun c1 => ?_) (fun c1 => ?_)
  · replace h := h.1 c1
    refine vv_iload_n (mi := mJ9_max_7cf53) (pc := 9) 1 dJ9_max_7cf53_9 rfl rfl ?_
    exact vv_iret (mi := mJ9_max_7cf53) (pc := 10) dJ9_max_7cf53_10 rfl (Nat.le_of_ble_eq_true rfl) (Nat.le_of_ble_eq_true rfl) h
  · replace h := h.2 c1
    refine vv_iload_n (mi := mJ9_max_7cf53) (pc := 5) 0 dJ9_max_7cf53_5 rfl rfl ?_
    refine vv_goto (mi := mJ9_max_7cf53) (pc := 6) 10 dJ9_max_7cf53_6 rfl ?_
    exact vv_iret (mi := mJ9_max_7cf53) (pc := 10) dJ9_max_7cf53_10 rfl (Nat.le_of_ble_eq_true rfl) (Nat.le_of_ble_eq_true rfl) h
set_option maxHeartbeats 4000000 in
set_option maxRecDepth 100000 in
theorem bX8_add_64 {X : Cx_}  {post : Mm → Prop}  {this : Nat} {x1 : Option Nat} {x2 : Int32} {s0 : Option Nat} {s1 : Int32} {M : Mm} (h : BX8_add_64  post this x1 x2 s0 s1 M) : VV X mX8_add rX8_add (pV_ post) 64 [(0, .inr (.inr (some this))), (1, .inr (.inr x1)), (2, .inl x2)] [.inl s1, .inr (.inr s0)] M 0 0 := by
  unfold BX8_add_64 at h
  obtain ⟨aq22, hs23, h⟩ := h
  obtain ⟨ht24, h⟩ := h
  obtain ⟨M25, eM25⟩ : ∃ z : Mm, z = suI M aq22 2 s1 := ⟨_, rfl⟩
  replace h := h _ eM25
  refine vv_putI (mi := mX8_add) (pc := 64) 8 2 hs23 ht24 fq_X8_19 (fun q => by cases q) rfl (Nat.le_of_ble_eq_true rfl) dX8_add_64 eM25 ?_
  refine vv_aload_n (mi := mX8_add) (pc := 67) 0 dX8_add_67 rfl rfl ?_
  refine vv_aload_n (mi := mX8_add) (pc := 68) 0 dX8_add_68 rfl rfl ?_
  obtain ⟨ht26, h⟩ := h
  refine vv_getI (mi := mX8_add) (pc := 69) 8 3 rfl ht26 fl_X8_22 (Nat.le_of_ble_eq_true rfl) dX8_add_69 ?_
  refine vv_aload_n (mi := mX8_add) (pc := 72) 1 dX8_add_72 rfl rfl ?_
  obtain ⟨aq27, hs28, h⟩ := h
  obtain ⟨ht29, h⟩ := h
  refine vv_getI (mi := mX8_add) (pc := 73) 2 6 hs28 ht29 fl_X8_30 (Nat.le_of_ble_eq_true rfl) dX8_add_73 ?_
  refine vv_iload_n (mi := mX8_add) (pc := 76) 2 dX8_add_76 rfl rfl ?_
  refine vv_isub (mi := mX8_add) (pc := 77) dX8_add_77 ?_
  refine vv_callS (mi := mX8_add) (pc := 78) (rest := [.inr (.inr (some this))]) (As := [.inl (ddI M25 this 3), .inl ((ddI M25 aq27 6) - x2)]) (ctJ9_max_7cf53 (X := X) h) dX8_add_78 mb_J9_max_7cf53 rfl ml_X8_33 sc_J9_max_7cf53 ⟨(Nat.le_of_ble_eq_true rfl), (Nat.le_of_ble_eq_true rfl)⟩ ⟨(Nat.le_of_ble_eq_true rfl), (Nat.le_of_ble_eq_true rfl)⟩ (Nat.le_of_ble_eq_true rfl) rfl (kI_ (F := fun st M' => VV X mX8_add rX8_add (pV_ post) 81 [(0, .inr (.inr (some this))), (1, .inr (.inr x1)), (2, .inl x2)] st M' 0 0) (fun r30 M31 h => ?_))
  obtain ⟨ht32, h⟩ := h
  obtain ⟨M33, eM33⟩ : ∃ z : Mm, z = suI M31 this 3 r30 := ⟨_, rfl⟩
  replace h := h _ eM33
  refine vv_putI (mi := mX8_add) (pc := 81) 8 3 rfl ht32 fq_X8_22 (fun q => by cases q) rfl (Nat.le_of_ble_eq_true rfl) dX8_add_81 eM33 ?_
  refine vv_aload_n (mi := mX8_add) (pc := 84) 0 dX8_add_84 rfl rfl ?_
  refine vv_dup (mi := mX8_add) (pc := 85) dX8_add_85 rfl ?_
  refine vv_getI (mi := mX8_add) (pc := 86) 8 1 rfl (tgI_ eM33 ht32) fl_X8_15 (Nat.le_of_ble_eq_true rfl) dX8_add_86 ?_
  refine vv_aload_n (mi := mX8_add) (pc := 89) 1 dX8_add_89 rfl rfl ?_
  refine vv_iload_n (mi := mX8_add) (pc := 90) 2 dX8_add_90 rfl rfl ?_
  obtain ⟨ht34, h⟩ := h
  refine vv_callV (mi := mX8_add) (pc := 91) (rest := [.inl (ddI M33 this 1), .inr (.inr (some this))]) (As := [.inl x2]) (ctX2_figuresAt (X := X) h) dX8_add_91 hs28 ht34 (Nat.le_of_ble_eq_true rfl) rfl mb_X2_figuresAt rfl ml_X8_42 im_X2_figuresAt se_X2_figuresAt ⟨(Nat.le_of_ble_eq_true rfl), (Nat.le_of_ble_eq_true rfl)⟩ ⟨(Nat.le_of_ble_eq_true rfl), (Nat.le_of_ble_eq_true rfl)⟩ (Nat.le_of_ble_eq_true rfl) rfl (kI_ (F := fun st M' => VV X mX8_add rX8_add (pV_ post) 94 [(0, .inr (.inr (some this))), (1, .inr (.inr x1)), (2, .inl x2)] st M' 0 0) (fun r35 M36 h => ?_))
  refine vv_ior (mi := mX8_add) (pc := 94) dX8_add_94 ?_
  obtain ⟨ht37, h⟩ := h
  obtain ⟨M38, eM38⟩ : ∃ z : Mm, z = suI M36 this 1 ((ddI M33 this 1) ||| r35) := ⟨_, rfl⟩
  replace h := h _ eM38
  refine vv_putI (mi := mX8_add) (pc := 95) 8 1 rfl ht37 fq_X8_15 (fun q => by cases q) rfl (Nat.le_of_ble_eq_true rfl) dX8_add_95 eM38 ?_
  exact vv_vret (mi := mX8_add) (pc := 98) dX8_add_98 rfl (Nat.le_of_ble_eq_true rfl) (Nat.le_of_ble_eq_true rfl) h
set_option maxHeartbeats 4000000 in
set_option maxRecDepth 100000 in
theorem bX8_add_21 {X : Cx_}  {post : Mm → Prop}  {this : Nat} {x1 : Option Nat} {x2 : Int32} {s0 : Option Nat} {s1 : Int32} {M : Mm} (h : BX8_add_21  post this x1 x2 s0 s1 M) : VV X mX8_add rX8_add (pV_ post) 21 [(0, .inr (.inr (some this))), (1, .inr (.inr x1)), (2, .inl x2)] [.inl s1, .inr (.inr s0)] M 0 0 := by
  unfold BX8_add_21 at h
  obtain ⟨aq7, hs8, h⟩ := h
  obtain ⟨ht9, h⟩ := h
  obtain ⟨hz10, h⟩ := h
  obtain ⟨M11, eM11⟩ : ∃ z : Mm, z = suI M aq7 0 s1 := ⟨_, rfl⟩
  replace h := h _ eM11
  refine vv_putZ (mi := mX8_add) (pc := 21) 8 0 hz10 hs8 ht9 fq_X8_9 (fun q => by cases q) rfl (Nat.le_of_ble_eq_true rfl) dX8_add_21 eM11 ?_
  refine vv_iload_n (mi := mX8_add) (pc := 24) 2 dX8_add_24 rfl rfl ?_
  refine vv_aload_n (mi := mX8_add) (pc := 25) 1 dX8_add_25 rfl rfl ?_
  obtain ⟨aq12, hs13, h⟩ := h
  obtain ⟨ht14, h⟩ := h
  refine vv_getI (mi := mX8_add) (pc := 26) 2 6 hs13 ht14 fl_X8_30 (Nat.le_of_ble_eq_true rfl) dX8_add_26 ?_
  refine vv_icmp_ge (mi := mX8_add) (pc := 29) 98 dX8_add_29 rfl (fun c15 => ?_) (fun c15 => ?_)
  · replace h := h.1 c15
    exact vv_vret (mi := mX8_add) (pc := 98) dX8_add_98 rfl (Nat.le_of_ble_eq_true rfl) (Nat.le_of_ble_eq_true rfl) h
  · replace h := h.2 c15
    refine vv_iconst (mi := mX8_add) (pc := 32) 1 dX8_add_32 rfl ?_
    refine vv_aload_n (mi := mX8_add) (pc := 33) 1 dX8_add_33 rfl rfl ?_
    refine vv_getI (mi := mX8_add) (pc := 34) 2 5 hs13 ht14 fl_X8_25 (Nat.le_of_ble_eq_true rfl) dX8_add_34 ?_
    refine vv_iload_n (mi := mX8_add) (pc := 37) 2 dX8_add_37 rfl rfl ?_
    refine vv_isub (mi := mX8_add) (pc := 38) dX8_add_38 ?_
    refine vv_callS (mi := mX8_add) (pc := 39) (rest := []) (As := [.inl 1, .inl ((ddI M11 aq12 5) - x2)]) (ctJ9_max_7cf53 (X := X) h) dX8_add_39 mb_J9_max_7cf53 rfl ml_X8_33 sc_J9_max_7cf53 ⟨(Nat.le_of_ble_eq_true rfl), (Nat.le_of_ble_eq_true rfl)⟩ ⟨(Nat.le_of_ble_eq_true rfl), (Nat.le_of_ble_eq_true rfl)⟩ (Nat.le_of_ble_eq_true rfl) rfl (kI_ (F := fun st M' => VV X mX8_add rX8_add (pV_ post) 42 [(0, .inr (.inr (some this))), (1, .inr (.inr x1)), (2, .inl x2)] st M' 0 0) (fun r16 M17 h => ?_))
    refine vv_istore_n (mi := mX8_add) (pc := 42) [(3, .inl r16), (0, .inr (.inr (some this))), (1, .inr (.inr x1)), (2, .inl x2)] dX8_add_42 rfl (Nat.le_of_ble_eq_true rfl) rfl ?_
    refine vv_aload_n (mi := mX8_add) (pc := 43) 1 dX8_add_43 rfl rfl ?_
    refine vv_aload_n (mi := mX8_add) (pc := 44) 1 dX8_add_44 rfl rfl ?_
    obtain ⟨ht18, h⟩ := h
    refine vv_getI (mi := mX8_add) (pc := 45) 8 2 rfl ht18 fl_X8_19 (Nat.le_of_ble_eq_true rfl) dX8_add_45 ?_
    refine vv_iconst (mi := mX8_add) (pc := 48) (-1) dX8_add_48 rfl ?_
    refine vv_icmp_ne (mi := mX8_add) (pc := 49) 56 dX8_add_49 rfl (fun c19 => ?_) (fun c19 => ?_)
    · replace h := h.1 c19
      refine vv_aload_n (mi := mX8_add) (pc := 56) 1 dX8_add_56 rfl rfl ?_
      refine vv_getI (mi := mX8_add) (pc := 57) 8 2 rfl ht18 fl_X8_19 (Nat.le_of_ble_eq_true rfl) dX8_add_57 ?_
      refine vv_iload_n (mi := mX8_add) (pc := 60) 0 dX8_add_60 rfl rfl ?_
      refine vv_callS (mi := mX8_add) (pc := 61) (rest := [.inr (.inr (some this))]) (As := [.inl (ddI M17 this 2), .inl r16]) (ctJ9_min_7cf53 (X := X) h) dX8_add_61 mb_J9_min_7cf53 rfl ml_X8_39 sc_J9_min_7cf53 ⟨(Nat.le_of_ble_eq_true rfl), (Nat.le_of_ble_eq_true rfl)⟩ ⟨(Nat.le_of_ble_eq_true rfl), (Nat.le_of_ble_eq_true rfl)⟩ (Nat.le_of_ble_eq_true rfl) rfl (kI_ (F := fun st M' => VV X mX8_add rX8_add (pV_ post) 64 [(3, .inl r16), (0, .inr (.inr (some this))), (1, .inr (.inr x1)), (2, .inl x2)] st M' 0 0) (fun r20 M21 h => ?_))
      refine vv_sub (mi := mX8_add) [(0, .inr (.inr (some this))), (1, .inr (.inr x1)), (2, .inl x2)] [1, 2, 3] rfl ?_
      exact bX8_add_64 (X := X)  h
    · replace h := h.2 c19
      refine vv_iload_n (mi := mX8_add) (pc := 52) 0 dX8_add_52 rfl rfl ?_
      refine vv_goto (mi := mX8_add) (pc := 53) 64 dX8_add_53 rfl ?_
      refine vv_sub (mi := mX8_add) [(0, .inr (.inr (some this))), (1, .inr (.inr x1)), (2, .inl x2)] [1, 2, 3] rfl ?_
      exact bX8_add_64 (X := X)  h
set_option maxHeartbeats 4000000 in
set_option maxRecDepth 100000 in
theorem ctX8_add {X : Cx_} {this : Nat} {a1 : Option Nat} {a2 : Int32} {M : Mm} {post : Mm → Prop} (h : PX8_add this a1 a2 M post) : CT X mX8_add rX8_add [.inr (.inr (some this)), .inr (.inr a1), .inl a2] M (pV_ post) := by
  unfold PX8_add at h
  refine CT.of (by decide +kernel) (Nat.le_of_ble_eq_true rfl) ?_
  show VV X mX8_add rX8_add (pV_ post) 0 [(0, .inr (.inr (some this))), (1, .inr (.inr a1)), (2, .inl a2)] [] M 0 0
  refine vv_aload_n (mi := mX8_add) (pc := 0) 0 dX8_add_0 rfl rfl ?_
  refine vv_aload_n (mi := mX8_add) (pc := 1) 0 dX8_add_1 rfl rfl ?_
  obtain ⟨ht1, h⟩ := h
  refine vv_getI (mi := mX8_add) (pc := 2) 8 0 rfl ht1 fl_X8_9 (Nat.le_of_ble_eq_true rfl) dX8_add_2 ?_
  refine vv_if_ne (mi := mX8_add) (pc := 5) 16 dX8_add_5 rfl (fun c2 => ?_) (fun c2 => ?_)
  · replace h := h.1 c2
    refine vv_iconst (mi := mX8_add) (pc := 16) 1 dX8_add_16 rfl ?_
    refine vv_goto (mi := mX8_add) (pc := 17) 21 dX8_add_17 rfl ?_
    refine vv_sub (mi := mX8_add) [(0, .inr (.inr (some this))), (1, .inr (.inr a1)), (2, .inl a2)] [0, 1, 2] rfl ?_
    exact bX8_add_21 (X := X)  h
  · replace h := h.2 c2
    refine vv_iload_n (mi := mX8_add) (pc := 8) 2 dX8_add_8 rfl rfl ?_
    refine vv_aload_n (mi := mX8_add) (pc := 9) 1 dX8_add_9 rfl rfl ?_
    obtain ⟨aq3, hs4, h⟩ := h
    obtain ⟨ht5, h⟩ := h
    refine vv_getI (mi := mX8_add) (pc := 10) 2 5 hs4 ht5 fl_X8_25 (Nat.le_of_ble_eq_true rfl) dX8_add_10 ?_
    refine vv_icmp_lt (mi := mX8_add) (pc := 13) 20 dX8_add_13 rfl (fun c6 => ?_) (fun c6 => ?_)
    · replace h := h.1 c6
      refine vv_iconst (mi := mX8_add) (pc := 20) 0 dX8_add_20 rfl ?_
      refine vv_sub (mi := mX8_add) [(0, .inr (.inr (some this))), (1, .inr (.inr a1)), (2, .inl a2)] [0, 1, 2] rfl ?_
      exact bX8_add_21 (X := X)  h
    · replace h := h.2 c6
      refine vv_iconst (mi := mX8_add) (pc := 16) 1 dX8_add_16 rfl ?_
      refine vv_goto (mi := mX8_add) (pc := 17) 21 dX8_add_17 rfl ?_
      refine vv_sub (mi := mX8_add) [(0, .inr (.inr (some this))), (1, .inr (.inr a1)), (2, .inl a2)] [0, 1, 2] rfl ?_
      exact bX8_add_21 (X := X)  h
set_option maxHeartbeats 4000000 in
set_option maxRecDepth 100000 in
theorem bX6_read_10 {X : Cx_} {kb10 : Nat → Int64 → Int32 → Int32 → Int32 → Mm → Prop} {post : Option Nat → Mm → Prop} (hb10 : ∀ (this : Nat) (x1 : Int64) (x3 : Int32) (x4 : Int32) (x5 : Int32) (M : Mm), kb10 this x1 x3 x4 x5 M → VV X mX6_read rX6_read (pR_ post) 10 [(0, .inr (.inr (some this))), (1, .inr (.inl x1)), (3, .inl x3), (4, .inl x4), (5, .inl x5)] [] M 0 0) {this : Nat} {x1 : Int64} {x3 : Int32} {x4 : Int32} {x5 : Int32} {M : Mm} (h : BX6_read_10 kb10 post this x1 x3 x4 x5 M) : VV X mX6_read rX6_read (pR_ post) 10 [(0, .inr (.inr (some this))), (1, .inr (.inl x1)), (3, .inl x3), (4, .inl x4), (5, .inl x5)] [] M 0 0 := by
  unfold BX6_read_10 at h
  refine vv_iload (mi := mX6_read) (pc := 10) 4 dX6_read_10 rfl ?_
  refine vv_aload_n (mi := mX6_read) (pc := 12) 0 dX6_read_12 rfl rfl ?_
  obtain ⟨ht7, h⟩ := h
  refine vv_getI (mi := mX6_read) (pc := 13) 6 1 rfl ht7 fl_X6_17 (Nat.le_of_ble_eq_true rfl) dX6_read_13 ?_
  refine vv_icmp_ge (mi := mX6_read) (pc := 16) 68 dX6_read_16 rfl (fun c8 => ?_) (fun c8 => ?_)
  · replace h := h.1 c8
    refine vv_aload_n (mi := mX6_read) (pc := 68) 0 dX6_read_68 rfl rfl ?_
    refine vv_getR (mi := mX6_read) (pc := 69) 6 4 rfl ht7 fl_X6_24 (Nat.le_of_ble_eq_true rfl) dX6_read_69 ?_
    exact vv_aret (mi := mX6_read) (pc := 72) dX6_read_72 rfl (Nat.le_of_ble_eq_true rfl) (Nat.le_of_ble_eq_true rfl) h
  · replace h := h.2 c8
    refine vv_aload_n (mi := mX6_read) (pc := 19) 0 dX6_read_19 rfl rfl ?_
    refine vv_iload (mi := mX6_read) (pc := 20) 4 dX6_read_20 rfl ?_
    refine vv_callV (mi := mX6_read) (pc := 22) (rest := []) (As := [.inl x5]) (ctX6_entryAt (X := X) h) dX6_read_22 rfl ht7 (Nat.le_of_ble_eq_true rfl) rfl mb_X6_entryAt rfl ml_X6_28 im_X6_entryAt se_X6_entryAt ⟨(Nat.le_of_ble_eq_true rfl), (Nat.le_of_ble_eq_true rfl)⟩ ⟨(Nat.le_of_ble_eq_true rfl), (Nat.le_of_ble_eq_true rfl)⟩ (Nat.le_of_ble_eq_true rfl) rfl (kR_ (F := fun st M' => VV X mX6_read rX6_read (pR_ post) 25 [(0, .inr (.inr (some this))), (1, .inr (.inl x1)), (3, .inl x3), (4, .inl x4), (5, .inl x5)] st M' 0 0) (fun r9 M10 h => ?_))
    refine vv_astore (mi := mX6_read) (pc := 25) [(6, .inr (.inr r9)), (0, .inr (.inr (some this))), (1, .inr (.inl x1)), (3, .inl x3), (4, .inl x4), (5, .inl x5)] dX6_read_25 (Nat.le_of_ble_eq_true rfl) rfl ?_
    refine vv_aload (mi := mX6_read) (pc := 27) 0 dX6_read_27 rfl ?_
    refine vv_ifnull (mi := mX6_read) (pc := 29) 62 dX6_read_29 rfl (fun c11 => ?_) (fun aq12 c11 => ?_)
    · replace h := h.1 c11
      refine vv_iinc (mi := mX6_read) (pc := 62) (x5 + 1) 5 [(5, .inl (x5 + 1)), (6, .inr (.inr r9)), (0, .inr (.inr (some this))), (1, .inr (.inl x1)), (3, .inl x3), (4, .inl x4)] dX6_read_62 rfl rfl (Nat.le_of_ble_eq_true rfl) rfl ?_
      refine vv_goto (mi := mX6_read) (pc := 65) 10 dX6_read_65 rfl ?_
      refine vv_sub (mi := mX6_read) [(0, .inr (.inr (some this))), (1, .inr (.inl x1)), (3, .inl x3), (4, .inl x4), (5, .inl (x5 + 1))] [2, 3, 4, 5, 0] rfl ?_
      exact hb10 _ _ _ _ _ _ h
    · replace h := h.2 aq12 c11
      refine vv_aload (mi := mX6_read) (pc := 32) 0 dX6_read_32 rfl ?_
      refine vv_iload (mi := mX6_read) (pc := 34) 4 dX6_read_34 rfl ?_
      obtain ⟨ht13, h⟩ := h
      refine vv_callV (mi := mX6_read) (pc := 36) (rest := []) (As := [.inl x4]) (ctX2_isInForce (X := X) h) dX6_read_36 c11 ht13 (Nat.le_of_ble_eq_true rfl) rfl mb_X2_isInForce rfl ml_X6_104 im_X2_isInForce se_X2_isInForce ⟨(Nat.le_of_ble_eq_true rfl), (Nat.le_of_ble_eq_true rfl)⟩ ⟨(Nat.le_of_ble_eq_true rfl), (Nat.le_of_ble_eq_true rfl)⟩ (Nat.le_of_ble_eq_true rfl) rfl (kI_ (F := fun st M' => VV X mX6_read rX6_read (pR_ post) 39 [(6, .inr (.inr r9)), (0, .inr (.inr (some this))), (1, .inr (.inl x1)), (3, .inl x3), (4, .inl x4), (5, .inl x5)] st M' 0 0) (fun r14 M15 h => ?_))
      refine vv_if_eq (mi := mX6_read) (pc := 39) 62 dX6_read_39 rfl (fun c16 => ?_) (fun c16 => ?_)
      · replace h := h.1 c16
        refine vv_iinc (mi := mX6_read) (pc := 62) (x5 + 1) 5 [(5, .inl (x5 + 1)), (6, .inr (.inr r9)), (0, .inr (.inr (some this))), (1, .inr (.inl x1)), (3, .inl x3), (4, .inl x4)] dX6_read_62 rfl rfl (Nat.le_of_ble_eq_true rfl) rfl ?_
        refine vv_goto (mi := mX6_read) (pc := 65) 10 dX6_read_65 rfl ?_
        refine vv_sub (mi := mX6_read) [(0, .inr (.inr (some this))), (1, .inr (.inl x1)), (3, .inl x3), (4, .inl x4), (5, .inl (x5 + 1))] [2, 3, 4, 5, 0] rfl ?_
        exact hb10 _ _ _ _ _ _ h
      · replace h := h.2 c16
        refine vv_aload (mi := mX6_read) (pc := 42) 0 dX6_read_42 rfl ?_
        refine vv_lload_n (mi := mX6_read) (pc := 44) 2 dX6_read_44 rfl rfl ?_
        refine vv_iload_n (mi := mX6_read) (pc := 45) 3 dX6_read_45 rfl rfl ?_
        obtain ⟨ht17, h⟩ := h
        refine vv_callV (mi := mX6_read) (pc := 46) (rest := []) (As := [.inr (.inl x1), .inl x3]) (ctX2_fits (X := X) h) dX6_read_46 c11 ht17 (Nat.le_of_ble_eq_true rfl) rfl mb_X2_fits rfl ml_X6_150 im_X2_fits se_X2_fits ⟨(Nat.le_of_ble_eq_true rfl), (Nat.le_of_ble_eq_true rfl)⟩ ⟨(Nat.le_of_ble_eq_true rfl), (Nat.le_of_ble_eq_true rfl)⟩ (Nat.le_of_ble_eq_true rfl) rfl (kI_ (F := fun st M' => VV X mX6_read rX6_read (pR_ post) 49 [(6, .inr (.inr r9)), (0, .inr (.inr (some this))), (1, .inr (.inl x1)), (3, .inl x3), (4, .inl x4), (5, .inl x5)] st M' 0 0) (fun r18 M19 h => ?_))
        refine vv_if_eq (mi := mX6_read) (pc := 49) 62 dX6_read_49 rfl (fun c20 => ?_) (fun c20 => ?_)
        · replace h := h.1 c20
          refine vv_iinc (mi := mX6_read) (pc := 62) (x5 + 1) 5 [(5, .inl (x5 + 1)), (6, .inr (.inr r9)), (0, .inr (.inr (some this))), (1, .inr (.inl x1)), (3, .inl x3), (4, .inl x4)] dX6_read_62 rfl rfl (Nat.le_of_ble_eq_true rfl) rfl ?_
          refine vv_goto (mi := mX6_read) (pc := 65) 10 dX6_read_65 rfl ?_
          refine vv_sub (mi := mX6_read) [(0, .inr (.inr (some this))), (1, .inr (.inl x1)), (3, .inl x3), (4, .inl x4), (5, .inl (x5 + 1))] [2, 3, 4, 5, 0] rfl ?_
          exact hb10 _ _ _ _ _ _ h
        · replace h := h.2 c20
          refine vv_aload_n (mi := mX6_read) (pc := 52) 1 dX6_read_52 rfl rfl ?_
          obtain ⟨ht21, h⟩ := h
          refine vv_getR (mi := mX6_read) (pc := 53) 6 4 rfl ht21 fl_X6_24 (Nat.le_of_ble_eq_true rfl) dX6_read_53 ?_
          refine vv_aload (mi := mX6_read) (pc := 56) 0 dX6_read_56 rfl ?_
          refine vv_iload_n (mi := mX6_read) (pc := 58) 3 dX6_read_58 rfl rfl ?_
          obtain ⟨aq22, hs23, h⟩ := h
          obtain ⟨ht24, h⟩ := h
          refine vv_callV (mi := mX6_read) (pc := 59) (rest := []) (As := [.inr (.inr r9), .inl x3]) (ctX8_add (X := X) h) dX6_read_59 hs23 ht24 (Nat.le_of_ble_eq_true rfl) rfl mb_X8_add rfl ml_X6_153 im_X8_add se_X8_add ⟨(Nat.le_of_ble_eq_true rfl), (Nat.le_of_ble_eq_true rfl)⟩ ⟨(Nat.le_of_ble_eq_true rfl), (Nat.le_of_ble_eq_true rfl)⟩ (Nat.le_of_ble_eq_true rfl) rfl (kV_ (F := fun st M' => VV X mX6_read rX6_read (pR_ post) 62 [(6, .inr (.inr r9)), (0, .inr (.inr (some this))), (1, .inr (.inl x1)), (3, .inl x3), (4, .inl x4), (5, .inl x5)] st M' 0 0) (fun M26 h => ?_))
          refine vv_iinc (mi := mX6_read) (pc := 62) (x5 + 1) 5 [(5, .inl (x5 + 1)), (6, .inr (.inr r9)), (0, .inr (.inr (some this))), (1, .inr (.inl x1)), (3, .inl x3), (4, .inl x4)] dX6_read_62 rfl rfl (Nat.le_of_ble_eq_true rfl) rfl ?_
          refine vv_goto (mi := mX6_read) (pc := 65) 10 dX6_read_65 rfl ?_
          refine vv_sub (mi := mX6_read) [(0, .inr (.inr (some this))), (1, .inr (.inl x1)), (3, .inl x3), (4, .inl x4), (5, .inl (x5 + 1))] [2, 3, 4, 5, 0] rfl ?_
          exact hb10 _ _ _ _ _ _ h
theorem loX6_read_10 {X : Cx_}  {post : Option Nat → Mm → Prop}  : ∀ (fu : Nat) {this : Nat} {x1 : Int64} {x3 : Int32} {x4 : Int32} {x5 : Int32} {M : Mm}, DX6_read_10  post fu this x1 x3 x4 x5 M → VV X mX6_read rX6_read (pR_ post) 10 [(0, .inr (.inr (some this))), (1, .inr (.inl x1)), (3, .inl x3), (4, .inl x4), (5, .inl x5)] [] M 0 0
  | 0, _, _, _, _, _, _, h => False.elim h
  | fu + 1, _, _, _, _, _, _, h => bX6_read_10 (fun this x1 x3 x4 x5 M h => loX6_read_10  fu h) h
set_option maxHeartbeats 4000000 in
set_option maxRecDepth 100000 in
theorem ctX6_read {X : Cx_} {this : Nat} {a1 : Int64} {a2 : Int32} {a3 : Int32} {M : Mm} {post : Option Nat → Mm → Prop} (h : PX6_read this a1 a2 a3 M post) : CT X mX6_read rX6_read [.inr (.inr (some this)), .inr (.inl a1), .inl a2, .inl a3] M (pR_ post) := by
  unfold PX6_read at h
  refine CT.of (by decide +kernel) (Nat.le_of_ble_eq_true rfl) ?_
  show VV X mX6_read rX6_read (pR_ post) 0 [(0, .inr (.inr (some this))), (1, .inr (.inl a1)), (3, .inl a2), (4, .inl a3)] [] M 0 0
  refine vv_aload_n (mi := mX6_read) (pc := 0) 0 dX6_read_0 rfl rfl ?_
  obtain ⟨ht1, h⟩ := h
  refine vv_getR (mi := mX6_read) (pc := 1) 6 4 rfl ht1 fl_X6_24 (Nat.le_of_ble_eq_true rfl) dX6_read_1 ?_
  obtain ⟨aq2, hs3, h⟩ := h
  obtain ⟨ht4, h⟩ := h
  refine vv_callV (mi := mX6_read) (pc := 4) (rest := []) (As := []) (ctX8_clear (X := X) h) dX6_read_4 hs3 ht4 (Nat.le_of_ble_eq_true rfl) rfl mb_X8_clear rfl ml_X6_147 im_X8_clear se_X8_clear ⟨(Nat.le_of_ble_eq_true rfl), (Nat.le_of_ble_eq_true rfl)⟩ ⟨(Nat.le_of_ble_eq_true rfl), (Nat.le_of_ble_eq_true rfl)⟩ (Nat.le_of_ble_eq_true rfl) rfl (kV_ (F := fun st M' => VV X mX6_read rX6_read (pR_ post) 7 [(0, .inr (.inr (some this))), (1, .inr (.inl a1)), (3, .inl a2), (4, .inl a3)] st M' 0 0) (fun M6 h => ?_))
  refine vv_iconst (mi := mX6_read) (pc := 7) 0 dX6_read_7 rfl ?_
  refine vv_istore (mi := mX6_read) (pc := 8) [(5, .inl 0), (0, .inr (.inr (some this))), (1, .inr (.inl a1)), (3, .inl a2), (4, .inl a3)] dX6_read_8 (Nat.le_of_ble_eq_true rfl) rfl ?_
  refine vv_sub (mi := mX6_read) [(0, .inr (.inr (some this))), (1, .inr (.inl a1)), (3, .inl a2), (4, .inl a3), (5, .inl 0)] [1, 2, 3, 4, 0] rfl ?_
  obtain ⟨fu, h⟩ := h
  exact loX6_read_10 (X := X)  fu h
set_option maxHeartbeats 4000000 in
set_option maxRecDepth 100000 in
theorem bX6_roomOf_5 {X : Cx_} {kb5 : Nat → Int32 → Int32 → Int64 → Int32 → Mm → Prop} {post : Int64 → Mm → Prop} (hb5 : ∀ (this : Nat) (x1 : Int32) (x2 : Int32) (x3 : Int64) (x5 : Int32) (M : Mm), kb5 this x1 x2 x3 x5 M → VV X mX6_roomOf rX6_roomOf (pL_ post) 5 [(0, .inr (.inr (some this))), (1, .inl x1), (2, .inl x2), (3, .inr (.inl x3)), (5, .inl x5)] [] M 0 0) {this : Nat} {x1 : Int32} {x2 : Int32} {x3 : Int64} {x5 : Int32} {M : Mm} (h : BX6_roomOf_5 kb5 post this x1 x2 x3 x5 M) : VV X mX6_roomOf rX6_roomOf (pL_ post) 5 [(0, .inr (.inr (some this))), (1, .inl x1), (2, .inl x2), (3, .inr (.inl x3)), (5, .inl x5)] [] M 0 0 := by
  unfold BX6_roomOf_5 at h
  refine vv_iload (mi := mX6_roomOf) (pc := 5) 4 dX6_roomOf_5 rfl ?_
  refine vv_aload_n (mi := mX6_roomOf) (pc := 7) 0 dX6_roomOf_7 rfl rfl ?_
  obtain ⟨ht1, h⟩ := h
  refine vv_getI (mi := mX6_roomOf) (pc := 8) 6 1 rfl ht1 fl_X6_17 (Nat.le_of_ble_eq_true rfl) dX6_roomOf_8 ?_
  refine vv_icmp_ge (mi := mX6_roomOf) (pc := 11) 51 dX6_roomOf_11 rfl (fun c2 => ?_) (fun c2 => ?_)
  · replace h := h.1 c2
    refine vv_lload_n (mi := mX6_roomOf) (pc := 51) 3 dX6_roomOf_51 rfl rfl ?_
    exact vv_lret (mi := mX6_roomOf) (pc := 52) dX6_roomOf_52 rfl (Nat.le_of_ble_eq_true rfl) (Nat.le_of_ble_eq_true rfl) h
  · replace h := h.2 c2
    refine vv_aload_n (mi := mX6_roomOf) (pc := 14) 0 dX6_roomOf_14 rfl rfl ?_
    refine vv_iload (mi := mX6_roomOf) (pc := 15) 4 dX6_roomOf_15 rfl ?_
    refine vv_callV (mi := mX6_roomOf) (pc := 17) (rest := []) (As := [.inl x5]) (ctX6_blockAt (X := X) h) dX6_roomOf_17 rfl ht1 (Nat.le_of_ble_eq_true rfl) rfl mb_X6_blockAt rfl ml_X6_157 im_X6_blockAt se_X6_blockAt ⟨(Nat.le_of_ble_eq_true rfl), (Nat.le_of_ble_eq_true rfl)⟩ ⟨(Nat.le_of_ble_eq_true rfl), (Nat.le_of_ble_eq_true rfl)⟩ (Nat.le_of_ble_eq_true rfl) rfl (kR_ (F := fun st M' => VV X mX6_roomOf rX6_roomOf (pL_ post) 20 [(0, .inr (.inr (some this))), (1, .inl x1), (2, .inl x2), (3, .inr (.inl x3)), (5, .inl x5)] st M' 0 0) (fun r3 M4 h => ?_))
    refine vv_astore (mi := mX6_roomOf) (pc := 20) [(6, .inr (.inr r3)), (0, .inr (.inr (some this))), (1, .inl x1), (2, .inl x2), (3, .inr (.inl x3)), (5, .inl x5)] dX6_roomOf_20 (Nat.le_of_ble_eq_true rfl) rfl ?_
    refine vv_aload (mi := mX6_roomOf) (pc := 22) 0 dX6_roomOf_22 rfl ?_
    refine vv_ifnull (mi := mX6_roomOf) (pc := 24) 45 dX6_roomOf_24 rfl (fun c5 => ?_) (fun aq6 c5 => ?_)
    · replace h := h.1 c5
      refine vv_iinc (mi := mX6_roomOf) (pc := 45) (x5 + 1) 5 [(5, .inl (x5 + 1)), (6, .inr (.inr r3)), (0, .inr (.inr (some this))), (1, .inl x1), (2, .inl x2), (3, .inr (.inl x3))] dX6_roomOf_45 rfl rfl (Nat.le_of_ble_eq_true rfl) rfl ?_
      refine vv_goto (mi := mX6_roomOf) (pc := 48) 5 dX6_roomOf_48 rfl ?_
      refine vv_sub (mi := mX6_roomOf) [(0, .inr (.inr (some this))), (1, .inl x1), (2, .inl x2), (3, .inr (.inl x3)), (5, .inl (x5 + 1))] [2, 3, 4, 5, 0] rfl ?_
      exact hb5 _ _ _ _ _ _ h
    · replace h := h.2 aq6 c5
      refine vv_aload (mi := mX6_roomOf) (pc := 27) 0 dX6_roomOf_27 rfl ?_
      obtain ⟨ht7, h⟩ := h
      refine vv_getI (mi := mX6_roomOf) (pc := 29) 2 1 c5 ht7 fl_X6_56 (Nat.le_of_ble_eq_true rfl) dX6_roomOf_29 ?_
      refine vv_iload_n (mi := mX6_roomOf) (pc := 32) 2 dX6_roomOf_32 rfl rfl ?_
      refine vv_icmp_ne (mi := mX6_roomOf) (pc := 33) 45 dX6_roomOf_33 rfl (fun c8 => ?_) (fun c8 => ?_)
      · replace h := h.1 c8
        refine vv_iinc (mi := mX6_roomOf) (pc := 45) (x5 + 1) 5 [(5, .inl (x5 + 1)), (6, .inr (.inr r3)), (0, .inr (.inr (some this))), (1, .inl x1), (2, .inl x2), (3, .inr (.inl x3))] dX6_roomOf_45 rfl rfl (Nat.le_of_ble_eq_true rfl) rfl ?_
        refine vv_goto (mi := mX6_roomOf) (pc := 48) 5 dX6_roomOf_48 rfl ?_
        refine vv_sub (mi := mX6_roomOf) [(0, .inr (.inr (some this))), (1, .inl x1), (2, .inl x2), (3, .inr (.inl x3)), (5, .inl (x5 + 1))] [2, 3, 4, 5, 0] rfl ?_
        exact hb5 _ _ _ _ _ _ h
      · replace h := h.2 c8
        refine vv_lload_n (mi := mX6_roomOf) (pc := 36) 4 dX6_roomOf_36 rfl rfl ?_
        refine vv_aload (mi := mX6_roomOf) (pc := 37) 0 dX6_roomOf_37 rfl ?_
        refine vv_iload_n (mi := mX6_roomOf) (pc := 39) 3 dX6_roomOf_39 rfl rfl ?_
        refine vv_callV (mi := mX6_roomOf) (pc := 40) (rest := [.inr (.inl x3)]) (As := [.inl x2]) (ctX2_roomOn (X := X) h) dX6_roomOf_40 c5 ht7 (Nat.le_of_ble_eq_true rfl) rfl mb_X2_roomOn rfl ml_X6_160 im_X2_roomOn se_X2_roomOn ⟨(Nat.le_of_ble_eq_true rfl), (Nat.le_of_ble_eq_true rfl)⟩ ⟨(Nat.le_of_ble_eq_true rfl), (Nat.le_of_ble_eq_true rfl)⟩ (Nat.le_of_ble_eq_true rfl) rfl (kL_ (F := fun st M' => VV X mX6_roomOf rX6_roomOf (pL_ post) 43 [(6, .inr (.inr r3)), (0, .inr (.inr (some this))), (1, .inl x1), (2, .inl x2), (3, .inr (.inl x3)), (5, .inl x5)] st M' 0 0) (fun r9 M10 h => ?_))
        refine vv_ladd (mi := mX6_roomOf) (pc := 43) dX6_roomOf_43 ?_
        obtain ⟨v11, ev11⟩ : ∃ z : Int64, z = (x3 + r9) := ⟨_, rfl⟩
        refine vv_namL ev11 ?_
        replace h := h _ ev11
        refine vv_lstore_n (mi := mX6_roomOf) (pc := 44) [(3, .inr (.inl v11)), (6, .inr (.inr r3)), (0, .inr (.inr (some this))), (1, .inl x1), (2, .inl x2), (5, .inl x5)] dX6_roomOf_44 rfl (Nat.le_of_ble_eq_true rfl) rfl ?_
        refine vv_iinc (mi := mX6_roomOf) (pc := 45) (x5 + 1) 5 [(5, .inl (x5 + 1)), (3, .inr (.inl v11)), (6, .inr (.inr r3)), (0, .inr (.inr (some this))), (1, .inl x1), (2, .inl x2)] dX6_roomOf_45 rfl rfl (Nat.le_of_ble_eq_true rfl) rfl ?_
        refine vv_goto (mi := mX6_roomOf) (pc := 48) 5 dX6_roomOf_48 rfl ?_
        refine vv_sub (mi := mX6_roomOf) [(0, .inr (.inr (some this))), (1, .inl x1), (2, .inl x2), (3, .inr (.inl v11)), (5, .inl (x5 + 1))] [3, 4, 5, 1, 0] rfl ?_
        exact hb5 _ _ _ _ _ _ h
theorem loX6_roomOf_5 {X : Cx_}  {post : Int64 → Mm → Prop}  : ∀ (fu : Nat) {this : Nat} {x1 : Int32} {x2 : Int32} {x3 : Int64} {x5 : Int32} {M : Mm}, DX6_roomOf_5  post fu this x1 x2 x3 x5 M → VV X mX6_roomOf rX6_roomOf (pL_ post) 5 [(0, .inr (.inr (some this))), (1, .inl x1), (2, .inl x2), (3, .inr (.inl x3)), (5, .inl x5)] [] M 0 0
  | 0, _, _, _, _, _, _, h => False.elim h
  | fu + 1, _, _, _, _, _, _, h => bX6_roomOf_5 (fun this x1 x2 x3 x5 M h => loX6_roomOf_5  fu h) h
set_option maxHeartbeats 4000000 in
set_option maxRecDepth 100000 in
theorem ctX6_roomOf {X : Cx_} {this : Nat} {a1 : Int32} {a2 : Int32} {M : Mm} {post : Int64 → Mm → Prop} (h : PX6_roomOf this a1 a2 M post) : CT X mX6_roomOf rX6_roomOf [.inr (.inr (some this)), .inl a1, .inl a2] M (pL_ post) := by
  unfold PX6_roomOf at h
  refine CT.of (by decide +kernel) (Nat.le_of_ble_eq_true rfl) ?_
  show VV X mX6_roomOf rX6_roomOf (pL_ post) 0 [(0, .inr (.inr (some this))), (1, .inl a1), (2, .inl a2)] [] M 0 0
  refine vv_lconst (mi := mX6_roomOf) (pc := 0) 0 dX6_roomOf_0 rfl ?_
  refine vv_lstore_n (mi := mX6_roomOf) (pc := 1) [(3, .inr (.inl 0)), (0, .inr (.inr (some this))), (1, .inl a1), (2, .inl a2)] dX6_roomOf_1 rfl (Nat.le_of_ble_eq_true rfl) rfl ?_
  refine vv_iconst (mi := mX6_roomOf) (pc := 2) 0 dX6_roomOf_2 rfl ?_
  refine vv_istore (mi := mX6_roomOf) (pc := 3) [(5, .inl 0), (3, .inr (.inl 0)), (0, .inr (.inr (some this))), (1, .inl a1), (2, .inl a2)] dX6_roomOf_3 (Nat.le_of_ble_eq_true rfl) rfl ?_
  refine vv_sub (mi := mX6_roomOf) [(0, .inr (.inr (some this))), (1, .inl a1), (2, .inl a2), (3, .inr (.inl 0)), (5, .inl 0)] [2, 3, 4, 1, 0] rfl ?_
  obtain ⟨fu, h⟩ := h
  exact loX6_roomOf_5 (X := X)  fu h
set_option maxHeartbeats 4000000 in
set_option maxRecDepth 100000 in
theorem ctX10_weekBehind {X : Cx_} {a1 : Int32} {M : Mm} {post : Int32 → Mm → Prop} (h : PX10_weekBehind a1 M post) : CT X mX10_weekBehind rX10_weekBehind [.inl a1] M (pI_ post) := by
  unfold PX10_weekBehind at h
  refine CT.of (by decide +kernel) (Nat.le_of_ble_eq_true rfl) ?_
  show VV X mX10_weekBehind rX10_weekBehind (pI_ post) 0 [(0, .inl a1)] [] M 0 0
  refine vv_iload_n (mi := mX10_weekBehind) (pc := 0) 0 dX10_weekBehind_0 rfl rfl ?_
  refine vv_bipush (mi := mX10_weekBehind) (pc := 1) 7 dX10_weekBehind_1 rfl ?_
  refine vv_iadd (mi := mX10_weekBehind) (pc := 3) dX10_weekBehind_3 ?_
  refine vv_iconst (mi := mX10_weekBehind) (pc := 4) 1 dX10_weekBehind_4 rfl ?_
  refine vv_isub (mi := mX10_weekBehind) (pc := 5) dX10_weekBehind_5 ?_
  refine vv_bipush (mi := mX10_weekBehind) (pc := 6) 7 dX10_weekBehind_6 rfl ?_
  refine vv_idiv (mi := mX10_weekBehind) (pc := 8) nzI_7 dX10_weekBehind_8 ?_
  exact vv_iret (mi := mX10_weekBehind) (pc := 9) dX10_weekBehind_9 rfl (Nat.le_of_ble_eq_true rfl) (Nat.le_of_ble_eq_true rfl) h
set_option maxHeartbeats 4000000 in
set_option maxRecDepth 100000 in
theorem ctX6_sooner {X : Cx_} {a1 : Int32} {a2 : Int32} {a3 : Int32} {M : Mm} {post : Int32 → Mm → Prop} (h : PX6_sooner a1 a2 a3 M post) : CT X mX6_sooner rX6_sooner [.inl a1, .inl a2, .inl a3] M (pI_ post) := by
  unfold PX6_sooner at h
  refine CT.of (by decide +kernel) (Nat.le_of_ble_eq_true rfl) ?_
  show VV X mX6_sooner rX6_sooner (pI_ post) 0 [(0, .inl a1), (1, .inl a2), (2, .inl a3)] [] M 0 0
  refine vv_iload_n (mi := mX6_sooner) (pc := 0) 1 dX6_sooner_0 rfl rfl ?_
  refine vv_iload_n (mi := mX6_sooner) (pc := 1) 2 dX6_sooner_1 rfl rfl ?_
  refine vv_icmp_le (mi := mX6_sooner) (pc := 2) 14 dX6_sooner_2 rfl (fun c1 => ?_) (fun c1 => ?_)
  · replace h := h.1 c1
    refine vv_iload_n (mi := mX6_sooner) (pc := 14) 0 dX6_sooner_14 rfl rfl ?_
    exact vv_iret (mi := mX6_sooner) (pc := 15) dX6_sooner_15 rfl (Nat.le_of_ble_eq_true rfl) (Nat.le_of_ble_eq_true rfl) h
  · replace h := h.2 c1
    refine vv_iload_n (mi := mX6_sooner) (pc := 5) 1 dX6_sooner_5 rfl rfl ?_
    refine vv_iload_n (mi := mX6_sooner) (pc := 6) 0 dX6_sooner_6 rfl rfl ?_
    refine vv_icmp_ge (mi := mX6_sooner) (pc := 7) 14 dX6_sooner_7 rfl (fun c2 => ?_) (fun c2 => ?_)
    · replace h := h.1 c2
      refine vv_iload_n (mi := mX6_sooner) (pc := 14) 0 dX6_sooner_14 rfl rfl ?_
      exact vv_iret (mi := mX6_sooner) (pc := 15) dX6_sooner_15 rfl (Nat.le_of_ble_eq_true rfl) (Nat.le_of_ble_eq_true rfl) h
    · replace h := h.2 c2
      refine vv_iload_n (mi := mX6_sooner) (pc := 10) 1 dX6_sooner_10 rfl rfl ?_
      refine vv_goto (mi := mX6_sooner) (pc := 11) 15 dX6_sooner_11 rfl ?_
      exact vv_iret (mi := mX6_sooner) (pc := 15) dX6_sooner_15 rfl (Nat.le_of_ble_eq_true rfl) (Nat.le_of_ble_eq_true rfl) h
set_option maxHeartbeats 4000000 in
set_option maxRecDepth 100000 in
theorem bX6_nextTurn_7 {X : Cx_} {kb7 : Nat → Int32 → Int32 → Int32 → Int32 → Mm → Prop} {post : Int32 → Mm → Prop} (hb7 : ∀ (this : Nat) (x1 : Int32) (x2 : Int32) (x3 : Int32) (x4 : Int32) (M : Mm), kb7 this x1 x2 x3 x4 M → VV X mX6_nextTurn rX6_nextTurn (pI_ post) 7 [(0, .inr (.inr (some this))), (1, .inl x1), (2, .inl x2), (3, .inl x3), (4, .inl x4)] [] M 0 0) {this : Nat} {x1 : Int32} {x2 : Int32} {x3 : Int32} {x4 : Int32} {M : Mm} (h : BX6_nextTurn_7 kb7 post this x1 x2 x3 x4 M) : VV X mX6_nextTurn rX6_nextTurn (pI_ post) 7 [(0, .inr (.inr (some this))), (1, .inl x1), (2, .inl x2), (3, .inl x3), (4, .inl x4)] [] M 0 0 := by
  unfold BX6_nextTurn_7 at h
  refine vv_iload (mi := mX6_nextTurn) (pc := 7) 4 dX6_nextTurn_7 rfl ?_
  refine vv_aload_n (mi := mX6_nextTurn) (pc := 9) 0 dX6_nextTurn_9 rfl rfl ?_
  obtain ⟨ht1, h⟩ := h
  refine vv_getI (mi := mX6_nextTurn) (pc := 10) 6 1 rfl ht1 fl_X6_17 (Nat.le_of_ble_eq_true rfl) dX6_nextTurn_10 ?_
  refine vv_icmp_ge (mi := mX6_nextTurn) (pc := 13) 85 dX6_nextTurn_13 rfl (fun c2 => ?_) (fun c2 => ?_)
  · replace h := h.1 c2
    refine vv_iload_n (mi := mX6_nextTurn) (pc := 85) 3 dX6_nextTurn_85 rfl rfl ?_
    exact vv_iret (mi := mX6_nextTurn) (pc := 86) dX6_nextTurn_86 rfl (Nat.le_of_ble_eq_true rfl) (Nat.le_of_ble_eq_true rfl) h
  · replace h := h.2 c2
    refine vv_aload_n (mi := mX6_nextTurn) (pc := 16) 0 dX6_nextTurn_16 rfl rfl ?_
    refine vv_iload (mi := mX6_nextTurn) (pc := 17) 4 dX6_nextTurn_17 rfl ?_
    refine vv_callV (mi := mX6_nextTurn) (pc := 19) (rest := []) (As := [.inl x4]) (ctX6_blockAt (X := X) h) dX6_nextTurn_19 rfl ht1 (Nat.le_of_ble_eq_true rfl) rfl mb_X6_blockAt rfl ml_X6_157 im_X6_blockAt se_X6_blockAt ⟨(Nat.le_of_ble_eq_true rfl), (Nat.le_of_ble_eq_true rfl)⟩ ⟨(Nat.le_of_ble_eq_true rfl), (Nat.le_of_ble_eq_true rfl)⟩ (Nat.le_of_ble_eq_true rfl) rfl (kR_ (F := fun st M' => VV X mX6_nextTurn rX6_nextTurn (pI_ post) 22 [(0, .inr (.inr (some this))), (1, .inl x1), (2, .inl x2), (3, .inl x3), (4, .inl x4)] st M' 0 0) (fun r3 M4 h => ?_))
    refine vv_astore (mi := mX6_nextTurn) (pc := 22) [(5, .inr (.inr r3)), (0, .inr (.inr (some this))), (1, .inl x1), (2, .inl x2), (3, .inl x3), (4, .inl x4)] dX6_nextTurn_22 (Nat.le_of_ble_eq_true rfl) rfl ?_
    refine vv_aload (mi := mX6_nextTurn) (pc := 24) 0 dX6_nextTurn_24 rfl ?_
    refine vv_ifnull (mi := mX6_nextTurn) (pc := 26) 79 dX6_nextTurn_26 rfl (fun c5 => ?_) (fun aq6 c5 => ?_)
    · replace h := h.1 c5
      refine vv_iinc (mi := mX6_nextTurn) (pc := 79) (x4 + 1) 5 [(4, .inl (x4 + 1)), (5, .inr (.inr r3)), (0, .inr (.inr (some this))), (1, .inl x1), (2, .inl x2), (3, .inl x3)] dX6_nextTurn_79 rfl rfl (Nat.le_of_ble_eq_true rfl) rfl ?_
      refine vv_goto (mi := mX6_nextTurn) (pc := 82) 7 dX6_nextTurn_82 rfl ?_
      refine vv_sub (mi := mX6_nextTurn) [(0, .inr (.inr (some this))), (1, .inl x1), (2, .inl x2), (3, .inl x3), (4, .inl (x4 + 1))] [2, 3, 4, 5, 0] rfl ?_
      exact hb7 _ _ _ _ _ _ h
    · replace h := h.2 aq6 c5
      refine vv_aload (mi := mX6_nextTurn) (pc := 29) 0 dX6_nextTurn_29 rfl ?_
      obtain ⟨ht7, h⟩ := h
      refine vv_getI (mi := mX6_nextTurn) (pc := 31) 2 1 c5 ht7 fl_X6_56 (Nat.le_of_ble_eq_true rfl) dX6_nextTurn_31 ?_
      refine vv_iload_n (mi := mX6_nextTurn) (pc := 34) 2 dX6_nextTurn_34 rfl rfl ?_
      refine vv_icmp_ne (mi := mX6_nextTurn) (pc := 35) 79 dX6_nextTurn_35 rfl (fun c8 => ?_) (fun c8 => ?_)
      · replace h := h.1 c8
        refine vv_iinc (mi := mX6_nextTurn) (pc := 79) (x4 + 1) 5 [(4, .inl (x4 + 1)), (5, .inr (.inr r3)), (0, .inr (.inr (some this))), (1, .inl x1), (2, .inl x2), (3, .inl x3)] dX6_nextTurn_79 rfl rfl (Nat.le_of_ble_eq_true rfl) rfl ?_
        refine vv_goto (mi := mX6_nextTurn) (pc := 82) 7 dX6_nextTurn_82 rfl ?_
        refine vv_sub (mi := mX6_nextTurn) [(0, .inr (.inr (some this))), (1, .inl x1), (2, .inl x2), (3, .inl x3), (4, .inl (x4 + 1))] [2, 3, 4, 5, 0] rfl ?_
        exact hb7 _ _ _ _ _ _ h
      · replace h := h.2 c8
        refine vv_iload_n (mi := mX6_nextTurn) (pc := 38) 4 dX6_nextTurn_38 rfl rfl ?_
        refine vv_aload (mi := mX6_nextTurn) (pc := 39) 0 dX6_nextTurn_39 rfl ?_
        refine vv_getI (mi := mX6_nextTurn) (pc := 41) 2 7 c5 ht7 fl_X6_53 (Nat.le_of_ble_eq_true rfl) dX6_nextTurn_41 ?_
        refine vv_callSN (mi := mX6_nextTurn) (pc := 44) (rest := [.inl x3]) (As := [.inl (ddI M4 aq6 7)]) (ctX10_weekBehind (X := X) h) dX6_nextTurn_44 mb_X10_weekBehind rfl mn_X6_164 sc_X10_weekBehind ⟨(Nat.le_of_ble_eq_true rfl), (Nat.le_of_ble_eq_true rfl)⟩ ⟨(Nat.le_of_ble_eq_true rfl), (Nat.le_of_ble_eq_true rfl)⟩ (Nat.le_of_ble_eq_true rfl) rfl (kI_ (F := fun st M' => VV X mX6_nextTurn rX6_nextTurn (pI_ post) 47 [(5, .inr (.inr r3)), (0, .inr (.inr (some this))), (1, .inl x1), (2, .inl x2), (3, .inl x3), (4, .inl x4)] st M' 0 0) (fun r9 M10 h => ?_))
        refine vv_iload_n (mi := mX6_nextTurn) (pc := 47) 3 dX6_nextTurn_47 rfl rfl ?_
        refine vv_callS (mi := mX6_nextTurn) (pc := 48) (rest := []) (As := [.inl x3, .inl r9, .inl x2]) (ctX6_sooner (X := X) h) dX6_nextTurn_48 mb_X6_sooner rfl ml_X6_167 sc_X6_sooner ⟨(Nat.le_of_ble_eq_true rfl), (Nat.le_of_ble_eq_true rfl)⟩ ⟨(Nat.le_of_ble_eq_true rfl), (Nat.le_of_ble_eq_true rfl)⟩ (Nat.le_of_ble_eq_true rfl) rfl (kI_ (F := fun st M' => VV X mX6_nextTurn rX6_nextTurn (pI_ post) 51 [(5, .inr (.inr r3)), (0, .inr (.inr (some this))), (1, .inl x1), (2, .inl x2), (3, .inl x3), (4, .inl x4)] st M' 0 0) (fun r11 M12 h => ?_))
        refine vv_istore_n (mi := mX6_nextTurn) (pc := 51) [(3, .inl r11), (5, .inr (.inr r3)), (0, .inr (.inr (some this))), (1, .inl x1), (2, .inl x2), (4, .inl x4)] dX6_nextTurn_51 rfl (Nat.le_of_ble_eq_true rfl) rfl ?_
        refine vv_aload (mi := mX6_nextTurn) (pc := 52) 1 dX6_nextTurn_52 rfl ?_
        obtain ⟨ht13, h⟩ := h
        refine vv_getI (mi := mX6_nextTurn) (pc := 54) 2 10 c5 ht13 fl_X6_75 (Nat.le_of_ble_eq_true rfl) dX6_nextTurn_54 ?_
        refine vv_iconst (mi := mX6_nextTurn) (pc := 57) (-1) dX6_nextTurn_57 rfl ?_
        refine vv_icmp_ne (mi := mX6_nextTurn) (pc := 58) 65 dX6_nextTurn_58 rfl (fun c14 => ?_) (fun c14 => ?_)
        · replace h := h.1 c14
          refine vv_iload_n (mi := mX6_nextTurn) (pc := 65) 0 dX6_nextTurn_65 rfl rfl ?_
          refine vv_aload (mi := mX6_nextTurn) (pc := 66) 1 dX6_nextTurn_66 rfl ?_
          refine vv_getI (mi := mX6_nextTurn) (pc := 68) 2 10 c5 ht13 fl_X6_75 (Nat.le_of_ble_eq_true rfl) dX6_nextTurn_68 ?_
          refine vv_callSN (mi := mX6_nextTurn) (pc := 71) (rest := [.inl r11]) (As := [.inl (ddI M12 aq6 10)]) (ctX10_weekBehind (X := X) h) dX6_nextTurn_71 mb_X10_weekBehind rfl mn_X6_164 sc_X10_weekBehind ⟨(Nat.le_of_ble_eq_true rfl), (Nat.le_of_ble_eq_true rfl)⟩ ⟨(Nat.le_of_ble_eq_true rfl), (Nat.le_of_ble_eq_true rfl)⟩ (Nat.le_of_ble_eq_true rfl) rfl (kI_ (F := fun st M' => VV X mX6_nextTurn rX6_nextTurn (pI_ post) 74 [(3, .inl r11), (5, .inr (.inr r3)), (0, .inr (.inr (some this))), (1, .inl x1), (2, .inl x2), (4, .inl x4)] st M' 0 0) (fun r15 M16 h => ?_))
          refine vv_iload_n (mi := mX6_nextTurn) (pc := 74) 4 dX6_nextTurn_74 rfl rfl ?_
          refine vv_callS (mi := mX6_nextTurn) (pc := 75) (rest := []) (As := [.inl r11, .inl r15, .inl x2]) (ctX6_sooner (X := X) h) dX6_nextTurn_75 mb_X6_sooner rfl ml_X6_167 sc_X6_sooner ⟨(Nat.le_of_ble_eq_true rfl), (Nat.le_of_ble_eq_true rfl)⟩ ⟨(Nat.le_of_ble_eq_true rfl), (Nat.le_of_ble_eq_true rfl)⟩ (Nat.le_of_ble_eq_true rfl) rfl (kI_ (F := fun st M' => VV X mX6_nextTurn rX6_nextTurn (pI_ post) 78 [(3, .inl r11), (5, .inr (.inr r3)), (0, .inr (.inr (some this))), (1, .inl x1), (2, .inl x2), (4, .inl x4)] st M' 0 0) (fun r17 M18 h => ?_))
          refine vv_istore_n (mi := mX6_nextTurn) (pc := 78) [(3, .inl r17), (5, .inr (.inr r3)), (0, .inr (.inr (some this))), (1, .inl x1), (2, .inl x2), (4, .inl x4)] dX6_nextTurn_78 rfl (Nat.le_of_ble_eq_true rfl) rfl ?_
          refine vv_iinc (mi := mX6_nextTurn) (pc := 79) (x4 + 1) 5 [(4, .inl (x4 + 1)), (3, .inl r17), (5, .inr (.inr r3)), (0, .inr (.inr (some this))), (1, .inl x1), (2, .inl x2)] dX6_nextTurn_79 rfl rfl (Nat.le_of_ble_eq_true rfl) rfl ?_
          refine vv_goto (mi := mX6_nextTurn) (pc := 82) 7 dX6_nextTurn_82 rfl ?_
          refine vv_sub (mi := mX6_nextTurn) [(0, .inr (.inr (some this))), (1, .inl x1), (2, .inl x2), (3, .inl r17), (4, .inl (x4 + 1))] [3, 4, 5, 1, 0] rfl ?_
          exact hb7 _ _ _ _ _ _ h
        · replace h := h.2 c14
          refine vv_iload_n (mi := mX6_nextTurn) (pc := 61) 0 dX6_nextTurn_61 rfl rfl ?_
          refine vv_goto (mi := mX6_nextTurn) (pc := 62) 78 dX6_nextTurn_62 rfl ?_
          refine vv_istore_n (mi := mX6_nextTurn) (pc := 78) [(3, .inl r11), (5, .inr (.inr r3)), (0, .inr (.inr (some this))), (1, .inl x1), (2, .inl x2), (4, .inl x4)] dX6_nextTurn_78 rfl (Nat.le_of_ble_eq_true rfl) rfl ?_
          refine vv_iinc (mi := mX6_nextTurn) (pc := 79) (x4 + 1) 5 [(4, .inl (x4 + 1)), (3, .inl r11), (5, .inr (.inr r3)), (0, .inr (.inr (some this))), (1, .inl x1), (2, .inl x2)] dX6_nextTurn_79 rfl rfl (Nat.le_of_ble_eq_true rfl) rfl ?_
          refine vv_goto (mi := mX6_nextTurn) (pc := 82) 7 dX6_nextTurn_82 rfl ?_
          refine vv_sub (mi := mX6_nextTurn) [(0, .inr (.inr (some this))), (1, .inl x1), (2, .inl x2), (3, .inl r11), (4, .inl (x4 + 1))] [3, 4, 5, 1, 0] rfl ?_
          exact hb7 _ _ _ _ _ _ h
theorem loX6_nextTurn_7 {X : Cx_}  {post : Int32 → Mm → Prop}  : ∀ (fu : Nat) {this : Nat} {x1 : Int32} {x2 : Int32} {x3 : Int32} {x4 : Int32} {M : Mm}, DX6_nextTurn_7  post fu this x1 x2 x3 x4 M → VV X mX6_nextTurn rX6_nextTurn (pI_ post) 7 [(0, .inr (.inr (some this))), (1, .inl x1), (2, .inl x2), (3, .inl x3), (4, .inl x4)] [] M 0 0
  | 0, _, _, _, _, _, _, h => False.elim h
  | fu + 1, _, _, _, _, _, _, h => bX6_nextTurn_7 (fun this x1 x2 x3 x4 M h => loX6_nextTurn_7  fu h) h
set_option maxHeartbeats 4000000 in
set_option maxRecDepth 100000 in
theorem ctX6_nextTurn {X : Cx_} {this : Nat} {a1 : Int32} {a2 : Int32} {M : Mm} {post : Int32 → Mm → Prop} (h : PX6_nextTurn this a1 a2 M post) : CT X mX6_nextTurn rX6_nextTurn [.inr (.inr (some this)), .inl a1, .inl a2] M (pI_ post) := by
  unfold PX6_nextTurn at h
  refine CT.of (by decide +kernel) (Nat.le_of_ble_eq_true rfl) ?_
  show VV X mX6_nextTurn rX6_nextTurn (pI_ post) 0 [(0, .inr (.inr (some this))), (1, .inl a1), (2, .inl a2)] [] M 0 0
  refine vv_sipush (mi := mX6_nextTurn) (pc := 0) 2001 dX6_nextTurn_0 rfl ?_
  refine vv_istore_n (mi := mX6_nextTurn) (pc := 3) [(3, .inl 2001), (0, .inr (.inr (some this))), (1, .inl a1), (2, .inl a2)] dX6_nextTurn_3 rfl (Nat.le_of_ble_eq_true rfl) rfl ?_
  refine vv_iconst (mi := mX6_nextTurn) (pc := 4) 0 dX6_nextTurn_4 rfl ?_
  refine vv_istore (mi := mX6_nextTurn) (pc := 5) [(4, .inl 0), (3, .inl 2001), (0, .inr (.inr (some this))), (1, .inl a1), (2, .inl a2)] dX6_nextTurn_5 (Nat.le_of_ble_eq_true rfl) rfl ?_
  refine vv_sub (mi := mX6_nextTurn) [(0, .inr (.inr (some this))), (1, .inl a1), (2, .inl a2), (3, .inl 2001), (4, .inl 0)] [2, 3, 4, 1, 0] rfl ?_
  obtain ⟨fu, h⟩ := h
  exact loX6_nextTurn_7 (X := X)  fu h
set_option maxHeartbeats 4000000 in
set_option maxRecDepth 100000 in
theorem bX6_clashesOn_2 {X : Cx_} {kb2 : Nat → (Option Nat) → Int32 → Int32 → Mm → Prop} {post : Int32 → Mm → Prop} (hb2 : ∀ (this : Nat) (x1 : Option Nat) (x2 : Int32) (x3 : Int32) (M : Mm), kb2 this x1 x2 x3 M → VV X mX6_clashesOn rX6_clashesOn (pI_ post) 2 [(0, .inr (.inr (some this))), (1, .inr (.inr x1)), (2, .inl x2), (3, .inl x3)] [] M 0 0) {this : Nat} {x1 : Option Nat} {x2 : Int32} {x3 : Int32} {M : Mm} (h : BX6_clashesOn_2 kb2 post this x1 x2 x3 M) : VV X mX6_clashesOn rX6_clashesOn (pI_ post) 2 [(0, .inr (.inr (some this))), (1, .inr (.inr x1)), (2, .inl x2), (3, .inl x3)] [] M 0 0 := by
  unfold BX6_clashesOn_2 at h
  refine vv_iload_n (mi := mX6_clashesOn) (pc := 2) 3 dX6_clashesOn_2 rfl rfl ?_
  refine vv_aload_n (mi := mX6_clashesOn) (pc := 3) 0 dX6_clashesOn_3 rfl rfl ?_
  obtain ⟨ht1, h⟩ := h
  refine vv_getI (mi := mX6_clashesOn) (pc := 4) 6 1 rfl ht1 fl_X6_17 (Nat.le_of_ble_eq_true rfl) dX6_clashesOn_4 ?_
  refine vv_icmp_ge (mi := mX6_clashesOn) (pc := 7) 48 dX6_clashesOn_7 rfl (fun c2 => ?_) (fun c2 => ?_)
  · replace h := h.1 c2
    refine vv_iconst (mi := mX6_clashesOn) (pc := 48) 0 dX6_clashesOn_48 rfl ?_
    exact vv_zret (mi := mX6_clashesOn) (pc := 49) dX6_clashesOn_49 rfl (Or.inl rfl) (Nat.le_of_ble_eq_true rfl) (Nat.le_of_ble_eq_true rfl) h
  · replace h := h.2 c2
    refine vv_aload_n (mi := mX6_clashesOn) (pc := 10) 0 dX6_clashesOn_10 rfl rfl ?_
    refine vv_iload_n (mi := mX6_clashesOn) (pc := 11) 3 dX6_clashesOn_11 rfl rfl ?_
    refine vv_callV (mi := mX6_clashesOn) (pc := 12) (rest := []) (As := [.inl x3]) (ctX6_entryAt (X := X) h) dX6_clashesOn_12 rfl ht1 (Nat.le_of_ble_eq_true rfl) rfl mb_X6_entryAt rfl ml_X6_28 im_X6_entryAt se_X6_entryAt ⟨(Nat.le_of_ble_eq_true rfl), (Nat.le_of_ble_eq_true rfl)⟩ ⟨(Nat.le_of_ble_eq_true rfl), (Nat.le_of_ble_eq_true rfl)⟩ (Nat.le_of_ble_eq_true rfl) rfl (kR_ (F := fun st M' => VV X mX6_clashesOn rX6_clashesOn (pI_ post) 15 [(0, .inr (.inr (some this))), (1, .inr (.inr x1)), (2, .inl x2), (3, .inl x3)] st M' 0 0) (fun r3 M4 h => ?_))
    refine vv_astore (mi := mX6_clashesOn) (pc := 15) [(4, .inr (.inr r3)), (0, .inr (.inr (some this))), (1, .inr (.inr x1)), (2, .inl x2), (3, .inl x3)] dX6_clashesOn_15 (Nat.le_of_ble_eq_true rfl) rfl ?_
    refine vv_aload (mi := mX6_clashesOn) (pc := 17) 0 dX6_clashesOn_17 rfl ?_
    refine vv_ifnull (mi := mX6_clashesOn) (pc := 19) 42 dX6_clashesOn_19 rfl (fun c5 => ?_) (fun aq6 c5 => ?_)
    · replace h := h.1 c5
      refine vv_iinc (mi := mX6_clashesOn) (pc := 42) (x3 + 1) 4 [(3, .inl (x3 + 1)), (4, .inr (.inr r3)), (0, .inr (.inr (some this))), (1, .inr (.inr x1)), (2, .inl x2)] dX6_clashesOn_42 rfl rfl (Nat.le_of_ble_eq_true rfl) rfl ?_
      refine vv_goto (mi := mX6_clashesOn) (pc := 45) 2 dX6_clashesOn_45 rfl ?_
      refine vv_sub (mi := mX6_clashesOn) [(0, .inr (.inr (some this))), (1, .inr (.inr x1)), (2, .inl x2), (3, .inl (x3 + 1))] [2, 3, 4, 0] rfl ?_
      exact hb2 _ _ _ _ _ h
    · replace h := h.2 aq6 c5
      refine vv_aload (mi := mX6_clashesOn) (pc := 22) 0 dX6_clashesOn_22 rfl ?_
      refine vv_iload_n (mi := mX6_clashesOn) (pc := 24) 3 dX6_clashesOn_24 rfl rfl ?_
      obtain ⟨ht7, h⟩ := h
      refine vv_callV (mi := mX6_clashesOn) (pc := 25) (rest := []) (As := [.inl x2]) (ctX2_isInForce (X := X) h) dX6_clashesOn_25 c5 ht7 (Nat.le_of_ble_eq_true rfl) rfl mb_X2_isInForce rfl ml_X6_104 im_X2_isInForce se_X2_isInForce ⟨(Nat.le_of_ble_eq_true rfl), (Nat.le_of_ble_eq_true rfl)⟩ ⟨(Nat.le_of_ble_eq_true rfl), (Nat.le_of_ble_eq_true rfl)⟩ (Nat.le_of_ble_eq_true rfl) rfl (kI_ (F := fun st M' => VV X mX6_clashesOn rX6_clashesOn (pI_ post) 28 [(4, .inr (.inr r3)), (0, .inr (.inr (some this))), (1, .inr (.inr x1)), (2, .inl x2), (3, .inl x3)] st M' 0 0) (fun r8 M9 h => ?_))
      refine vv_if_eq (mi := mX6_clashesOn) (pc := 28) 42 dX6_clashesOn_28 rfl (fun c10 => ?_) (fun c10 => ?_)
      · replace h := h.1 c10
        refine vv_iinc (mi := mX6_clashesOn) (pc := 42) (x3 + 1) 4 [(3, .inl (x3 + 1)), (4, .inr (.inr r3)), (0, .inr (.inr (some this))), (1, .inr (.inr x1)), (2, .inl x2)] dX6_clashesOn_42 rfl rfl (Nat.le_of_ble_eq_true rfl) rfl ?_
        refine vv_goto (mi := mX6_clashesOn) (pc := 45) 2 dX6_clashesOn_45 rfl ?_
        refine vv_sub (mi := mX6_clashesOn) [(0, .inr (.inr (some this))), (1, .inr (.inr x1)), (2, .inl x2), (3, .inl (x3 + 1))] [2, 3, 4, 0] rfl ?_
        exact hb2 _ _ _ _ _ h
      · replace h := h.2 c10
        refine vv_aload (mi := mX6_clashesOn) (pc := 31) 0 dX6_clashesOn_31 rfl ?_
        refine vv_aload_n (mi := mX6_clashesOn) (pc := 33) 2 dX6_clashesOn_33 rfl rfl ?_
        obtain ⟨ht11, h⟩ := h
        refine vv_callV (mi := mX6_clashesOn) (pc := 34) (rest := []) (As := [.inr (.inr x1)]) (ctX2_clashesWith (X := X) h) dX6_clashesOn_34 c5 ht11 (Nat.le_of_ble_eq_true rfl) rfl mb_X2_clashesWith rfl ml_X6_39 im_X2_clashesWith se_X2_clashesWith ⟨(Nat.le_of_ble_eq_true rfl), (Nat.le_of_ble_eq_true rfl)⟩ ⟨(Nat.le_of_ble_eq_true rfl), (Nat.le_of_ble_eq_true rfl)⟩ (Nat.le_of_ble_eq_true rfl) rfl (kI_ (F := fun st M' => VV X mX6_clashesOn rX6_clashesOn (pI_ post) 37 [(4, .inr (.inr r3)), (0, .inr (.inr (some this))), (1, .inr (.inr x1)), (2, .inl x2), (3, .inl x3)] st M' 0 0) (fun r12 M13 h => ?_))
        refine vv_if_eq (mi := mX6_clashesOn) (pc := 37) 42 dX6_clashesOn_37 rfl (fun c14 => ?_) (fun c14 => ?_)
        · replace h := h.1 c14
          refine vv_iinc (mi := mX6_clashesOn) (pc := 42) (x3 + 1) 4 [(3, .inl (x3 + 1)), (4, .inr (.inr r3)), (0, .inr (.inr (some this))), (1, .inr (.inr x1)), (2, .inl x2)] dX6_clashesOn_42 rfl rfl (Nat.le_of_ble_eq_true rfl) rfl ?_
          refine vv_goto (mi := mX6_clashesOn) (pc := 45) 2 dX6_clashesOn_45 rfl ?_
          refine vv_sub (mi := mX6_clashesOn) [(0, .inr (.inr (some this))), (1, .inr (.inr x1)), (2, .inl x2), (3, .inl (x3 + 1))] [2, 3, 4, 0] rfl ?_
          exact hb2 _ _ _ _ _ h
        · replace h := h.2 c14
          refine vv_iconst (mi := mX6_clashesOn) (pc := 40) 1 dX6_clashesOn_40 rfl ?_
          exact vv_zret (mi := mX6_clashesOn) (pc := 41) dX6_clashesOn_41 rfl (Or.inr rfl) (Nat.le_of_ble_eq_true rfl) (Nat.le_of_ble_eq_true rfl) h
theorem loX6_clashesOn_2 {X : Cx_}  {post : Int32 → Mm → Prop}  : ∀ (fu : Nat) {this : Nat} {x1 : Option Nat} {x2 : Int32} {x3 : Int32} {M : Mm}, DX6_clashesOn_2  post fu this x1 x2 x3 M → VV X mX6_clashesOn rX6_clashesOn (pI_ post) 2 [(0, .inr (.inr (some this))), (1, .inr (.inr x1)), (2, .inl x2), (3, .inl x3)] [] M 0 0
  | 0, _, _, _, _, _, h => False.elim h
  | fu + 1, _, _, _, _, _, h => bX6_clashesOn_2 (fun this x1 x2 x3 M h => loX6_clashesOn_2  fu h) h
set_option maxHeartbeats 4000000 in
set_option maxRecDepth 100000 in
theorem ctX6_clashesOn {X : Cx_} {this : Nat} {a1 : Option Nat} {a2 : Int32} {M : Mm} {post : Int32 → Mm → Prop} (h : PX6_clashesOn this a1 a2 M post) : CT X mX6_clashesOn rX6_clashesOn [.inr (.inr (some this)), .inr (.inr a1), .inl a2] M (pI_ post) := by
  unfold PX6_clashesOn at h
  refine CT.of (by decide +kernel) (Nat.le_of_ble_eq_true rfl) ?_
  show VV X mX6_clashesOn rX6_clashesOn (pI_ post) 0 [(0, .inr (.inr (some this))), (1, .inr (.inr a1)), (2, .inl a2)] [] M 0 0
  refine vv_iconst (mi := mX6_clashesOn) (pc := 0) 0 dX6_clashesOn_0 rfl ?_
  refine vv_istore_n (mi := mX6_clashesOn) (pc := 1) [(3, .inl 0), (0, .inr (.inr (some this))), (1, .inr (.inr a1)), (2, .inl a2)] dX6_clashesOn_1 rfl (Nat.le_of_ble_eq_true rfl) rfl ?_
  refine vv_sub (mi := mX6_clashesOn) [(0, .inr (.inr (some this))), (1, .inr (.inr a1)), (2, .inl a2), (3, .inl 0)] [1, 2, 3, 0] rfl ?_
  obtain ⟨fu, h⟩ := h
  exact loX6_clashesOn_2 (X := X)  fu h
set_option maxHeartbeats 4000000 in
set_option maxRecDepth 100000 in
theorem ctX8_answer {X : Cx_} {this : Nat} {M : Mm} {post : Int32 → Mm → Prop} (h : PX8_answer this M post) : CT X mX8_answer rX8_answer [.inr (.inr (some this))] M (pI_ post) := by
  unfold PX8_answer at h
  refine CT.of (by decide +kernel) (Nat.le_of_ble_eq_true rfl) ?_
  show VV X mX8_answer rX8_answer (pI_ post) 0 [(0, .inr (.inr (some this)))] [] M 0 0
  refine vv_aload_n (mi := mX8_answer) (pc := 0) 0 dX8_answer_0 rfl rfl ?_
  obtain ⟨ht1, h⟩ := h
  refine vv_getI (mi := mX8_answer) (pc := 1) 8 0 rfl ht1 fl_X8_9 (Nat.le_of_ble_eq_true rfl) dX8_answer_1 ?_
  refine vv_if_eq (mi := mX8_answer) (pc := 4) 21 dX8_answer_4 rfl (fun c2 => ?_) (fun c2 => ?_)
  · replace h := h.1 c2
    refine vv_aload_n (mi := mX8_answer) (pc := 21) 0 dX8_answer_21 rfl rfl ?_
    refine vv_getI (mi := mX8_answer) (pc := 22) 8 3 rfl ht1 fl_X8_22 (Nat.le_of_ble_eq_true rfl) dX8_answer_22 ?_
    refine vv_iconst (mi := mX8_answer) (pc := 25) (-1) dX8_answer_25 rfl ?_
    refine vv_icmp_ne (mi := mX8_answer) (pc := 26) 33 dX8_answer_26 rfl (fun c3 => ?_) (fun c3 => ?_)
    · replace h := h.1 c3
      refine vv_iconst (mi := mX8_answer) (pc := 33) 0 dX8_answer_33 rfl ?_
      exact vv_iret (mi := mX8_answer) (pc := 34) dX8_answer_34 rfl (Nat.le_of_ble_eq_true rfl) (Nat.le_of_ble_eq_true rfl) h
    · replace h := h.2 c3
      refine vv_iconst (mi := mX8_answer) (pc := 29) 3 dX8_answer_29 rfl ?_
      refine vv_goto (mi := mX8_answer) (pc := 30) 34 dX8_answer_30 rfl ?_
      exact vv_iret (mi := mX8_answer) (pc := 34) dX8_answer_34 rfl (Nat.le_of_ble_eq_true rfl) (Nat.le_of_ble_eq_true rfl) h
  · replace h := h.2 c2
    refine vv_aload_n (mi := mX8_answer) (pc := 7) 0 dX8_answer_7 rfl rfl ?_
    refine vv_getI (mi := mX8_answer) (pc := 8) 8 3 rfl ht1 fl_X8_22 (Nat.le_of_ble_eq_true rfl) dX8_answer_8 ?_
    refine vv_iconst (mi := mX8_answer) (pc := 11) (-1) dX8_answer_11 rfl ?_
    refine vv_icmp_ne (mi := mX8_answer) (pc := 12) 19 dX8_answer_12 rfl (fun c4 => ?_) (fun c4 => ?_)
    · replace h := h.1 c4
      refine vv_iconst (mi := mX8_answer) (pc := 19) 2 dX8_answer_19 rfl ?_
      exact vv_iret (mi := mX8_answer) (pc := 20) dX8_answer_20 rfl (Nat.le_of_ble_eq_true rfl) (Nat.le_of_ble_eq_true rfl) h
    · replace h := h.2 c4
      refine vv_iconst (mi := mX8_answer) (pc := 15) 1 dX8_answer_15 rfl ?_
      refine vv_goto (mi := mX8_answer) (pc := 16) 20 dX8_answer_16 rfl ?_
      exact vv_iret (mi := mX8_answer) (pc := 20) dX8_answer_20 rfl (Nat.le_of_ble_eq_true rfl) (Nat.le_of_ble_eq_true rfl) h
set_option maxHeartbeats 4000000 in
set_option maxRecDepth 100000 in
theorem ctX9_init {X : Cx_} {this : Nat} {a1 : Option Nat} {M : Mm} {post : Mm → Prop} (h : PX9_init this a1 M post) : CT X mX9_init rX9_init [.inr (.inr (some this)), .inr (.inr a1)] M (pV_ post) := by
  unfold PX9_init at h
  refine CT.of (by decide +kernel) (Nat.le_of_ble_eq_true rfl) ?_
  show VV X mX9_init rX9_init (pV_ post) 0 [(0, .inr (.inr (some this))), (1, .inr (.inr a1))] [] M 0 0
  refine vv_aload_n (mi := mX9_init) (pc := 0) 0 dX9_init_0 rfl rfl ?_
  refine vv_objInit (mi := mX9_init) (pc := 1) dX9_init_1 oi_X9_3 im_obj co_obj (Nat.le_of_ble_eq_true rfl) (Nat.le_of_ble_eq_true rfl) (Nat.le_of_ble_eq_true rfl) ?_
  refine vv_aload_n (mi := mX9_init) (pc := 4) 0 dX9_init_4 rfl rfl ?_
  refine vv_aload_n (mi := mX9_init) (pc := 5) 1 dX9_init_5 rfl rfl ?_
  obtain ⟨ht1, h⟩ := h
  obtain ⟨M2, eM2⟩ : ∃ z : Mm, z = suR M this 0 a1 := ⟨_, rfl⟩
  replace h := h _ eM2
  refine vv_putR (mi := mX9_init) (pc := 6) 9 0 (.object "DialDesk$Plan") rfl rfl ht1 fq_X9_9 (fun _ => rfl) rfl (Nat.le_of_ble_eq_true rfl) dX9_init_6 eM2 ?_
  refine vv_aload_n (mi := mX9_init) (pc := 9) 0 dX9_init_9 rfl rfl ?_
  refine vv_bipush (mi := mX9_init) (pc := 10) 16 dX9_init_10 rfl ?_
  obtain ⟨n3, en3⟩ : ∃ z : Nat, z = ddZ M2 := ⟨_, rfl⟩
  replace h := h _ en3
  obtain ⟨M4, eM4⟩ : ∃ z : Mm, z = suN M2 24 16 := ⟨_, rfl⟩
  replace h := h _ eM4
  refine vv_anew (mi := mX9_init) (pc := 12) 24 16 "DialDesk$Demand" (Nat.le_of_ble_eq_true rfl) rfl cl_X9_15 ao_24 (by decide +kernel) rfl (Nat.le_of_ble_eq_true rfl) (Nat.le_of_ble_eq_true rfl) (Nat.le_of_ble_eq_true rfl) dX9_init_12 en3 eM4 ?_
  obtain ⟨ht5, h⟩ := h
  obtain ⟨M6, eM6⟩ : ∃ z : Mm, z = suR M4 this 1 (some n3) := ⟨_, rfl⟩
  replace h := h _ eM6
  refine vv_putR (mi := mX9_init) (pc := 15) 9 1 (.array (.object "DialDesk$Demand")) rfl rfl ht5 fq_X9_17 (fun _ => rfl) rfl (Nat.le_of_ble_eq_true rfl) dX9_init_15 eM6 ?_
  refine vv_iconst (mi := mX9_init) (pc := 18) 0 dX9_init_18 rfl ?_
  refine vv_istore_n (mi := mX9_init) (pc := 19) [(2, .inl 0), (0, .inr (.inr (some this))), (1, .inr (.inr a1))] dX9_init_19 rfl (Nat.le_of_ble_eq_true rfl) rfl ?_
  refine vv_iload_n (mi := mX9_init) (pc := 20) 0 dX9_init_20 rfl rfl ?_
  refine vv_bipush (mi := mX9_init) (pc := 21) 16 dX9_init_21 rfl ?_
  refine vv_icmp_ge (mi := mX9_init) (pc := 23) 46 dX9_init_23 rfl (fun q => absurd q (by decide +kernel)) (fun c7 => ?_)
  refine vv_aload_n (mi := mX9_init) (pc := 26) 1 dX9_init_26 rfl rfl ?_
  refine vv_getR (mi := mX9_init) (pc := 27) 9 1 rfl (tgR_ eM6 ht5) fl_X9_17 (Nat.le_of_ble_eq_true rfl) dX9_init_27 ?_
  refine vv_iload_n (mi := mX9_init) (pc := 30) 0 dX9_init_30 rfl rfl ?_
  obtain ⟨n8, en8⟩ : ∃ z : Nat, z = ddZ M6 := ⟨_, rfl⟩
  replace h := h _ en8
  obtain ⟨M9, eM9⟩ : ∃ z : Mm, z = suN M6 2 0 := ⟨_, rfl⟩
  replace h := h _ eM9
  refine vv_new (mi := mX9_init) (pc := 31) 1 (r := (RX1, TX1, 3)) rfl (Nat.le_of_ble_eq_true rfl) rfl nw_1 cl_X9_15 it_1 iz_1 (Nat.le_of_ble_eq_true rfl) (Nat.le_of_ble_eq_true rfl) dX9_init_31 en8 eM9 ?_
  refine vv_dup (mi := mX9_init) (pc := 34) dX9_init_34 rfl ?_
  refine vv_iload_n (mi := mX9_init) (pc := 35) 0 dX9_init_35 rfl rfl ?_
  refine vv_callI (mi := mX9_init) (pc := 36) (rest := [.inr (.inr (some n8)), .inl 0, .inr (.inr (ddR M6 this 1))]) (As := [.inl 0]) (ctX1_init (X := X) h) dX9_init_36 rfl rfl rfl mb_X1_init rfl ml_X9_21 im_X1_init ⟨(Nat.le_of_ble_eq_true rfl), (Nat.le_of_ble_eq_true rfl)⟩ ⟨(Nat.le_of_ble_eq_true rfl), (Nat.le_of_ble_eq_true rfl)⟩ (Nat.le_of_ble_eq_true rfl) rfl (kV_ (F := fun st M' => VV X mX9_init rX9_init (pV_ post) 39 [(2, .inl 0), (0, .inr (.inr (some this))), (1, .inr (.inr a1))] st M' 2 19) (fun M11 h => ?_))
  obtain ⟨aq12, hs13, h⟩ := h
  obtain ⟨ht14, h⟩ := h
  obtain ⟨hi15, h⟩ := h
  obtain ⟨ht16, h⟩ := h
  obtain ⟨M17, eM17⟩ : ∃ z : Mm, z = suR M11 aq12 (Int32.toNatClampNeg 0) (some n8) := ⟨_, rfl⟩
  replace h := h _ eM17
  refine vv_aast (mi := mX9_init) (pc := 39) (t := 24) (ci := 1) (r := (RX1, TX1, 3)) (Nat.le_of_ble_eq_true rfl) (Nat.le_of_ble_eq_true rfl) rfl rfl rfl ht16 hs13 ht14 hi15 dX9_init_39 eM17 ?_
  refine vv_iinc (mi := mX9_init) (pc := 40) 1 0 [(2, .inl 1), (0, .inr (.inr (some this))), (1, .inr (.inr a1))] dX9_init_40 rfl rfl (Nat.le_of_ble_eq_true rfl) rfl ?_
  refine vv_goto (mi := mX9_init) (pc := 43) 20 dX9_init_43 rfl ?_
  refine vv_iload_n (mi := mX9_init) (pc := 20) 0 dX9_init_20 rfl rfl ?_
  refine vv_bipush (mi := mX9_init) (pc := 21) 16 dX9_init_21 rfl ?_
  refine vv_icmp_ge (mi := mX9_init) (pc := 23) 46 dX9_init_23 rfl (fun q => absurd q (by decide +kernel)) (fun c18 => ?_)
  refine vv_aload_n (mi := mX9_init) (pc := 26) 1 dX9_init_26 rfl rfl ?_
  obtain ⟨ht19, h⟩ := h
  refine vv_getR (mi := mX9_init) (pc := 27) 9 1 rfl ht19 fl_X9_17 (Nat.le_of_ble_eq_true rfl) dX9_init_27 ?_
  refine vv_iload_n (mi := mX9_init) (pc := 30) 0 dX9_init_30 rfl rfl ?_
  obtain ⟨n20, en20⟩ : ∃ z : Nat, z = ddZ M17 := ⟨_, rfl⟩
  replace h := h _ en20
  obtain ⟨M21, eM21⟩ : ∃ z : Mm, z = suN M17 2 0 := ⟨_, rfl⟩
  replace h := h _ eM21
  refine vv_new (mi := mX9_init) (pc := 31) 1 (r := (RX1, TX1, 3)) rfl (Nat.le_of_ble_eq_true rfl) rfl nw_1 cl_X9_15 it_1 iz_1 (Nat.le_of_ble_eq_true rfl) (Nat.le_of_ble_eq_true rfl) dX9_init_31 en20 eM21 ?_
  refine vv_dup (mi := mX9_init) (pc := 34) dX9_init_34 rfl ?_
  refine vv_iload_n (mi := mX9_init) (pc := 35) 0 dX9_init_35 rfl rfl ?_
  refine vv_callI (mi := mX9_init) (pc := 36) (rest := [.inr (.inr (some n20)), .inl 1, .inr (.inr (ddR M17 this 1))]) (As := [.inl 1]) (ctX1_init (X := X) h) dX9_init_36 rfl rfl rfl mb_X1_init rfl ml_X9_21 im_X1_init ⟨(Nat.le_of_ble_eq_true rfl), (Nat.le_of_ble_eq_true rfl)⟩ ⟨(Nat.le_of_ble_eq_true rfl), (Nat.le_of_ble_eq_true rfl)⟩ (Nat.le_of_ble_eq_true rfl) rfl (kV_ (F := fun st M' => VV X mX9_init rX9_init (pV_ post) 39 [(2, .inl 1), (0, .inr (.inr (some this))), (1, .inr (.inr a1))] st M' 3 22) (fun M23 h => ?_))
  obtain ⟨aq24, hs25, h⟩ := h
  obtain ⟨ht26, h⟩ := h
  obtain ⟨hi27, h⟩ := h
  obtain ⟨ht28, h⟩ := h
  obtain ⟨M29, eM29⟩ : ∃ z : Mm, z = suR M23 aq24 (Int32.toNatClampNeg 1) (some n20) := ⟨_, rfl⟩
  replace h := h _ eM29
  refine vv_aast (mi := mX9_init) (pc := 39) (t := 24) (ci := 1) (r := (RX1, TX1, 3)) (Nat.le_of_ble_eq_true rfl) (Nat.le_of_ble_eq_true rfl) rfl rfl rfl ht28 hs25 ht26 hi27 dX9_init_39 eM29 ?_
  refine vv_iinc (mi := mX9_init) (pc := 40) 2 0 [(2, .inl 2), (0, .inr (.inr (some this))), (1, .inr (.inr a1))] dX9_init_40 rfl rfl (Nat.le_of_ble_eq_true rfl) rfl ?_
  refine vv_goto (mi := mX9_init) (pc := 43) 20 dX9_init_43 rfl ?_
  refine vv_iload_n (mi := mX9_init) (pc := 20) 0 dX9_init_20 rfl rfl ?_
  refine vv_bipush (mi := mX9_init) (pc := 21) 16 dX9_init_21 rfl ?_
  refine vv_icmp_ge (mi := mX9_init) (pc := 23) 46 dX9_init_23 rfl (fun q => absurd q (by decide +kernel)) (fun c30 => ?_)
  refine vv_aload_n (mi := mX9_init) (pc := 26) 1 dX9_init_26 rfl rfl ?_
  obtain ⟨ht31, h⟩ := h
  refine vv_getR (mi := mX9_init) (pc := 27) 9 1 rfl ht31 fl_X9_17 (Nat.le_of_ble_eq_true rfl) dX9_init_27 ?_
  refine vv_iload_n (mi := mX9_init) (pc := 30) 0 dX9_init_30 rfl rfl ?_
  obtain ⟨n32, en32⟩ : ∃ z : Nat, z = ddZ M29 := ⟨_, rfl⟩
  replace h := h _ en32
  obtain ⟨M33, eM33⟩ : ∃ z : Mm, z = suN M29 2 0 := ⟨_, rfl⟩
  replace h := h _ eM33
  refine vv_new (mi := mX9_init) (pc := 31) 1 (r := (RX1, TX1, 3)) rfl (Nat.le_of_ble_eq_true rfl) rfl nw_1 cl_X9_15 it_1 iz_1 (Nat.le_of_ble_eq_true rfl) (Nat.le_of_ble_eq_true rfl) dX9_init_31 en32 eM33 ?_
  refine vv_dup (mi := mX9_init) (pc := 34) dX9_init_34 rfl ?_
  refine vv_iload_n (mi := mX9_init) (pc := 35) 0 dX9_init_35 rfl rfl ?_
  refine vv_callI (mi := mX9_init) (pc := 36) (rest := [.inr (.inr (some n32)), .inl 2, .inr (.inr (ddR M29 this 1))]) (As := [.inl 2]) (ctX1_init (X := X) h) dX9_init_36 rfl rfl rfl mb_X1_init rfl ml_X9_21 im_X1_init ⟨(Nat.le_of_ble_eq_true rfl), (Nat.le_of_ble_eq_true rfl)⟩ ⟨(Nat.le_of_ble_eq_true rfl), (Nat.le_of_ble_eq_true rfl)⟩ (Nat.le_of_ble_eq_true rfl) rfl (kV_ (F := fun st M' => VV X mX9_init rX9_init (pV_ post) 39 [(2, .inl 2), (0, .inr (.inr (some this))), (1, .inr (.inr a1))] st M' 4 25) (fun M35 h => ?_))
  obtain ⟨aq36, hs37, h⟩ := h
  obtain ⟨ht38, h⟩ := h
  obtain ⟨hi39, h⟩ := h
  obtain ⟨ht40, h⟩ := h
  obtain ⟨M41, eM41⟩ : ∃ z : Mm, z = suR M35 aq36 (Int32.toNatClampNeg 2) (some n32) := ⟨_, rfl⟩
  replace h := h _ eM41
  refine vv_aast (mi := mX9_init) (pc := 39) (t := 24) (ci := 1) (r := (RX1, TX1, 3)) (Nat.le_of_ble_eq_true rfl) (Nat.le_of_ble_eq_true rfl) rfl rfl rfl ht40 hs37 ht38 hi39 dX9_init_39 eM41 ?_
  refine vv_iinc (mi := mX9_init) (pc := 40) 3 0 [(2, .inl 3), (0, .inr (.inr (some this))), (1, .inr (.inr a1))] dX9_init_40 rfl rfl (Nat.le_of_ble_eq_true rfl) rfl ?_
  refine vv_goto (mi := mX9_init) (pc := 43) 20 dX9_init_43 rfl ?_
  refine vv_iload_n (mi := mX9_init) (pc := 20) 0 dX9_init_20 rfl rfl ?_
  refine vv_bipush (mi := mX9_init) (pc := 21) 16 dX9_init_21 rfl ?_
  refine vv_icmp_ge (mi := mX9_init) (pc := 23) 46 dX9_init_23 rfl (fun q => absurd q (by decide +kernel)) (fun c42 => ?_)
  refine vv_aload_n (mi := mX9_init) (pc := 26) 1 dX9_init_26 rfl rfl ?_
  obtain ⟨ht43, h⟩ := h
  refine vv_getR (mi := mX9_init) (pc := 27) 9 1 rfl ht43 fl_X9_17 (Nat.le_of_ble_eq_true rfl) dX9_init_27 ?_
  refine vv_iload_n (mi := mX9_init) (pc := 30) 0 dX9_init_30 rfl rfl ?_
  obtain ⟨n44, en44⟩ : ∃ z : Nat, z = ddZ M41 := ⟨_, rfl⟩
  replace h := h _ en44
  obtain ⟨M45, eM45⟩ : ∃ z : Mm, z = suN M41 2 0 := ⟨_, rfl⟩
  replace h := h _ eM45
  refine vv_new (mi := mX9_init) (pc := 31) 1 (r := (RX1, TX1, 3)) rfl (Nat.le_of_ble_eq_true rfl) rfl nw_1 cl_X9_15 it_1 iz_1 (Nat.le_of_ble_eq_true rfl) (Nat.le_of_ble_eq_true rfl) dX9_init_31 en44 eM45 ?_
  refine vv_dup (mi := mX9_init) (pc := 34) dX9_init_34 rfl ?_
  refine vv_iload_n (mi := mX9_init) (pc := 35) 0 dX9_init_35 rfl rfl ?_
  refine vv_callI (mi := mX9_init) (pc := 36) (rest := [.inr (.inr (some n44)), .inl 3, .inr (.inr (ddR M41 this 1))]) (As := [.inl 3]) (ctX1_init (X := X) h) dX9_init_36 rfl rfl rfl mb_X1_init rfl ml_X9_21 im_X1_init ⟨(Nat.le_of_ble_eq_true rfl), (Nat.le_of_ble_eq_true rfl)⟩ ⟨(Nat.le_of_ble_eq_true rfl), (Nat.le_of_ble_eq_true rfl)⟩ (Nat.le_of_ble_eq_true rfl) rfl (kV_ (F := fun st M' => VV X mX9_init rX9_init (pV_ post) 39 [(2, .inl 3), (0, .inr (.inr (some this))), (1, .inr (.inr a1))] st M' 5 28) (fun M47 h => ?_))
  obtain ⟨aq48, hs49, h⟩ := h
  obtain ⟨ht50, h⟩ := h
  obtain ⟨hi51, h⟩ := h
  obtain ⟨ht52, h⟩ := h
  obtain ⟨M53, eM53⟩ : ∃ z : Mm, z = suR M47 aq48 (Int32.toNatClampNeg 3) (some n44) := ⟨_, rfl⟩
  replace h := h _ eM53
  refine vv_aast (mi := mX9_init) (pc := 39) (t := 24) (ci := 1) (r := (RX1, TX1, 3)) (Nat.le_of_ble_eq_true rfl) (Nat.le_of_ble_eq_true rfl) rfl rfl rfl ht52 hs49 ht50 hi51 dX9_init_39 eM53 ?_
  refine vv_iinc (mi := mX9_init) (pc := 40) 4 0 [(2, .inl 4), (0, .inr (.inr (some this))), (1, .inr (.inr a1))] dX9_init_40 rfl rfl (Nat.le_of_ble_eq_true rfl) rfl ?_
  refine vv_goto (mi := mX9_init) (pc := 43) 20 dX9_init_43 rfl ?_
  refine vv_iload_n (mi := mX9_init) (pc := 20) 0 dX9_init_20 rfl rfl ?_
  refine vv_bipush (mi := mX9_init) (pc := 21) 16 dX9_init_21 rfl ?_
  refine vv_icmp_ge (mi := mX9_init) (pc := 23) 46 dX9_init_23 rfl (fun q => absurd q (by decide +kernel)) (fun c54 => ?_)
  refine vv_aload_n (mi := mX9_init) (pc := 26) 1 dX9_init_26 rfl rfl ?_
  obtain ⟨ht55, h⟩ := h
  refine vv_getR (mi := mX9_init) (pc := 27) 9 1 rfl ht55 fl_X9_17 (Nat.le_of_ble_eq_true rfl) dX9_init_27 ?_
  refine vv_iload_n (mi := mX9_init) (pc := 30) 0 dX9_init_30 rfl rfl ?_
  obtain ⟨n56, en56⟩ : ∃ z : Nat, z = ddZ M53 := ⟨_, rfl⟩
  replace h := h _ en56
  obtain ⟨M57, eM57⟩ : ∃ z : Mm, z = suN M53 2 0 := ⟨_, rfl⟩
  replace h := h _ eM57
  refine vv_new (mi := mX9_init) (pc := 31) 1 (r := (RX1, TX1, 3)) rfl (Nat.le_of_ble_eq_true rfl) rfl nw_1 cl_X9_15 it_1 iz_1 (Nat.le_of_ble_eq_true rfl) (Nat.le_of_ble_eq_true rfl) dX9_init_31 en56 eM57 ?_
  refine vv_dup (mi := mX9_init) (pc := 34) dX9_init_34 rfl ?_
  refine vv_iload_n (mi := mX9_init) (pc := 35) 0 dX9_init_35 rfl rfl ?_
  refine vv_callI (mi := mX9_init) (pc := 36) (rest := [.inr (.inr (some n56)), .inl 4, .inr (.inr (ddR M53 this 1))]) (As := [.inl 4]) (ctX1_init (X := X) h) dX9_init_36 rfl rfl rfl mb_X1_init rfl ml_X9_21 im_X1_init ⟨(Nat.le_of_ble_eq_true rfl), (Nat.le_of_ble_eq_true rfl)⟩ ⟨(Nat.le_of_ble_eq_true rfl), (Nat.le_of_ble_eq_true rfl)⟩ (Nat.le_of_ble_eq_true rfl) rfl (kV_ (F := fun st M' => VV X mX9_init rX9_init (pV_ post) 39 [(2, .inl 4), (0, .inr (.inr (some this))), (1, .inr (.inr a1))] st M' 6 31) (fun M59 h => ?_))
  obtain ⟨aq60, hs61, h⟩ := h
  obtain ⟨ht62, h⟩ := h
  obtain ⟨hi63, h⟩ := h
  obtain ⟨ht64, h⟩ := h
  obtain ⟨M65, eM65⟩ : ∃ z : Mm, z = suR M59 aq60 (Int32.toNatClampNeg 4) (some n56) := ⟨_, rfl⟩
  replace h := h _ eM65
  refine vv_aast (mi := mX9_init) (pc := 39) (t := 24) (ci := 1) (r := (RX1, TX1, 3)) (Nat.le_of_ble_eq_true rfl) (Nat.le_of_ble_eq_true rfl) rfl rfl rfl ht64 hs61 ht62 hi63 dX9_init_39 eM65 ?_
  refine vv_iinc (mi := mX9_init) (pc := 40) 5 0 [(2, .inl 5), (0, .inr (.inr (some this))), (1, .inr (.inr a1))] dX9_init_40 rfl rfl (Nat.le_of_ble_eq_true rfl) rfl ?_
  refine vv_goto (mi := mX9_init) (pc := 43) 20 dX9_init_43 rfl ?_
  refine vv_iload_n (mi := mX9_init) (pc := 20) 0 dX9_init_20 rfl rfl ?_
  refine vv_bipush (mi := mX9_init) (pc := 21) 16 dX9_init_21 rfl ?_
  refine vv_icmp_ge (mi := mX9_init) (pc := 23) 46 dX9_init_23 rfl (fun q => absurd q (by decide +kernel)) (fun c66 => ?_)
  refine vv_aload_n (mi := mX9_init) (pc := 26) 1 dX9_init_26 rfl rfl ?_
  obtain ⟨ht67, h⟩ := h
  refine vv_getR (mi := mX9_init) (pc := 27) 9 1 rfl ht67 fl_X9_17 (Nat.le_of_ble_eq_true rfl) dX9_init_27 ?_
  refine vv_iload_n (mi := mX9_init) (pc := 30) 0 dX9_init_30 rfl rfl ?_
  obtain ⟨n68, en68⟩ : ∃ z : Nat, z = ddZ M65 := ⟨_, rfl⟩
  replace h := h _ en68
  obtain ⟨M69, eM69⟩ : ∃ z : Mm, z = suN M65 2 0 := ⟨_, rfl⟩
  replace h := h _ eM69
  refine vv_new (mi := mX9_init) (pc := 31) 1 (r := (RX1, TX1, 3)) rfl (Nat.le_of_ble_eq_true rfl) rfl nw_1 cl_X9_15 it_1 iz_1 (Nat.le_of_ble_eq_true rfl) (Nat.le_of_ble_eq_true rfl) dX9_init_31 en68 eM69 ?_
  refine vv_dup (mi := mX9_init) (pc := 34) dX9_init_34 rfl ?_
  refine vv_iload_n (mi := mX9_init) (pc := 35) 0 dX9_init_35 rfl rfl ?_
  refine vv_callI (mi := mX9_init) (pc := 36) (rest := [.inr (.inr (some n68)), .inl 5, .inr (.inr (ddR M65 this 1))]) (As := [.inl 5]) (ctX1_init (X := X) h) dX9_init_36 rfl rfl rfl mb_X1_init rfl ml_X9_21 im_X1_init ⟨(Nat.le_of_ble_eq_true rfl), (Nat.le_of_ble_eq_true rfl)⟩ ⟨(Nat.le_of_ble_eq_true rfl), (Nat.le_of_ble_eq_true rfl)⟩ (Nat.le_of_ble_eq_true rfl) rfl (kV_ (F := fun st M' => VV X mX9_init rX9_init (pV_ post) 39 [(2, .inl 5), (0, .inr (.inr (some this))), (1, .inr (.inr a1))] st M' 7 34) (fun M71 h => ?_))
  obtain ⟨aq72, hs73, h⟩ := h
  obtain ⟨ht74, h⟩ := h
  obtain ⟨hi75, h⟩ := h
  obtain ⟨ht76, h⟩ := h
  obtain ⟨M77, eM77⟩ : ∃ z : Mm, z = suR M71 aq72 (Int32.toNatClampNeg 5) (some n68) := ⟨_, rfl⟩
  replace h := h _ eM77
  refine vv_aast (mi := mX9_init) (pc := 39) (t := 24) (ci := 1) (r := (RX1, TX1, 3)) (Nat.le_of_ble_eq_true rfl) (Nat.le_of_ble_eq_true rfl) rfl rfl rfl ht76 hs73 ht74 hi75 dX9_init_39 eM77 ?_
  refine vv_iinc (mi := mX9_init) (pc := 40) 6 0 [(2, .inl 6), (0, .inr (.inr (some this))), (1, .inr (.inr a1))] dX9_init_40 rfl rfl (Nat.le_of_ble_eq_true rfl) rfl ?_
  refine vv_goto (mi := mX9_init) (pc := 43) 20 dX9_init_43 rfl ?_
  refine vv_iload_n (mi := mX9_init) (pc := 20) 0 dX9_init_20 rfl rfl ?_
  refine vv_bipush (mi := mX9_init) (pc := 21) 16 dX9_init_21 rfl ?_
  refine vv_icmp_ge (mi := mX9_init) (pc := 23) 46 dX9_init_23 rfl (fun q => absurd q (by decide +kernel)) (fun c78 => ?_)
  refine vv_aload_n (mi := mX9_init) (pc := 26) 1 dX9_init_26 rfl rfl ?_
  obtain ⟨ht79, h⟩ := h
  refine vv_getR (mi := mX9_init) (pc := 27) 9 1 rfl ht79 fl_X9_17 (Nat.le_of_ble_eq_true rfl) dX9_init_27 ?_
  refine vv_iload_n (mi := mX9_init) (pc := 30) 0 dX9_init_30 rfl rfl ?_
  obtain ⟨n80, en80⟩ : ∃ z : Nat, z = ddZ M77 := ⟨_, rfl⟩
  replace h := h _ en80
  obtain ⟨M81, eM81⟩ : ∃ z : Mm, z = suN M77 2 0 := ⟨_, rfl⟩
  replace h := h _ eM81
  refine vv_new (mi := mX9_init) (pc := 31) 1 (r := (RX1, TX1, 3)) rfl (Nat.le_of_ble_eq_true rfl) rfl nw_1 cl_X9_15 it_1 iz_1 (Nat.le_of_ble_eq_true rfl) (Nat.le_of_ble_eq_true rfl) dX9_init_31 en80 eM81 ?_
  refine vv_dup (mi := mX9_init) (pc := 34) dX9_init_34 rfl ?_
  refine vv_iload_n (mi := mX9_init) (pc := 35) 0 dX9_init_35 rfl rfl ?_
  refine vv_callI (mi := mX9_init) (pc := 36) (rest := [.inr (.inr (some n80)), .inl 6, .inr (.inr (ddR M77 this 1))]) (As := [.inl 6]) (ctX1_init (X := X) h) dX9_init_36 rfl rfl rfl mb_X1_init rfl ml_X9_21 im_X1_init ⟨(Nat.le_of_ble_eq_true rfl), (Nat.le_of_ble_eq_true rfl)⟩ ⟨(Nat.le_of_ble_eq_true rfl), (Nat.le_of_ble_eq_true rfl)⟩ (Nat.le_of_ble_eq_true rfl) rfl (kV_ (F := fun st M' => VV X mX9_init rX9_init (pV_ post) 39 [(2, .inl 6), (0, .inr (.inr (some this))), (1, .inr (.inr a1))] st M' 8 37) (fun M83 h => ?_))
  obtain ⟨aq84, hs85, h⟩ := h
  obtain ⟨ht86, h⟩ := h
  obtain ⟨hi87, h⟩ := h
  obtain ⟨ht88, h⟩ := h
  obtain ⟨M89, eM89⟩ : ∃ z : Mm, z = suR M83 aq84 (Int32.toNatClampNeg 6) (some n80) := ⟨_, rfl⟩
  replace h := h _ eM89
  refine vv_aast (mi := mX9_init) (pc := 39) (t := 24) (ci := 1) (r := (RX1, TX1, 3)) (Nat.le_of_ble_eq_true rfl) (Nat.le_of_ble_eq_true rfl) rfl rfl rfl ht88 hs85 ht86 hi87 dX9_init_39 eM89 ?_
  refine vv_iinc (mi := mX9_init) (pc := 40) 7 0 [(2, .inl 7), (0, .inr (.inr (some this))), (1, .inr (.inr a1))] dX9_init_40 rfl rfl (Nat.le_of_ble_eq_true rfl) rfl ?_
  refine vv_goto (mi := mX9_init) (pc := 43) 20 dX9_init_43 rfl ?_
  refine vv_iload_n (mi := mX9_init) (pc := 20) 0 dX9_init_20 rfl rfl ?_
  refine vv_bipush (mi := mX9_init) (pc := 21) 16 dX9_init_21 rfl ?_
  refine vv_icmp_ge (mi := mX9_init) (pc := 23) 46 dX9_init_23 rfl (fun q => absurd q (by decide +kernel)) (fun c90 => ?_)
  refine vv_aload_n (mi := mX9_init) (pc := 26) 1 dX9_init_26 rfl rfl ?_
  obtain ⟨ht91, h⟩ := h
  refine vv_getR (mi := mX9_init) (pc := 27) 9 1 rfl ht91 fl_X9_17 (Nat.le_of_ble_eq_true rfl) dX9_init_27 ?_
  refine vv_iload_n (mi := mX9_init) (pc := 30) 0 dX9_init_30 rfl rfl ?_
  obtain ⟨n92, en92⟩ : ∃ z : Nat, z = ddZ M89 := ⟨_, rfl⟩
  replace h := h _ en92
  obtain ⟨M93, eM93⟩ : ∃ z : Mm, z = suN M89 2 0 := ⟨_, rfl⟩
  replace h := h _ eM93
  refine vv_new (mi := mX9_init) (pc := 31) 1 (r := (RX1, TX1, 3)) rfl (Nat.le_of_ble_eq_true rfl) rfl nw_1 cl_X9_15 it_1 iz_1 (Nat.le_of_ble_eq_true rfl) (Nat.le_of_ble_eq_true rfl) dX9_init_31 en92 eM93 ?_
  refine vv_dup (mi := mX9_init) (pc := 34) dX9_init_34 rfl ?_
  refine vv_iload_n (mi := mX9_init) (pc := 35) 0 dX9_init_35 rfl rfl ?_
  refine vv_callI (mi := mX9_init) (pc := 36) (rest := [.inr (.inr (some n92)), .inl 7, .inr (.inr (ddR M89 this 1))]) (As := [.inl 7]) (ctX1_init (X := X) h) dX9_init_36 rfl rfl rfl mb_X1_init rfl ml_X9_21 im_X1_init ⟨(Nat.le_of_ble_eq_true rfl), (Nat.le_of_ble_eq_true rfl)⟩ ⟨(Nat.le_of_ble_eq_true rfl), (Nat.le_of_ble_eq_true rfl)⟩ (Nat.le_of_ble_eq_true rfl) rfl (kV_ (F := fun st M' => VV X mX9_init rX9_init (pV_ post) 39 [(2, .inl 7), (0, .inr (.inr (some this))), (1, .inr (.inr a1))] st M' 9 40) (fun M95 h => ?_))
  obtain ⟨aq96, hs97, h⟩ := h
  obtain ⟨ht98, h⟩ := h
  obtain ⟨hi99, h⟩ := h
  obtain ⟨ht100, h⟩ := h
  obtain ⟨M101, eM101⟩ : ∃ z : Mm, z = suR M95 aq96 (Int32.toNatClampNeg 7) (some n92) := ⟨_, rfl⟩
  replace h := h _ eM101
  refine vv_aast (mi := mX9_init) (pc := 39) (t := 24) (ci := 1) (r := (RX1, TX1, 3)) (Nat.le_of_ble_eq_true rfl) (Nat.le_of_ble_eq_true rfl) rfl rfl rfl ht100 hs97 ht98 hi99 dX9_init_39 eM101 ?_
  refine vv_iinc (mi := mX9_init) (pc := 40) 8 0 [(2, .inl 8), (0, .inr (.inr (some this))), (1, .inr (.inr a1))] dX9_init_40 rfl rfl (Nat.le_of_ble_eq_true rfl) rfl ?_
  refine vv_goto (mi := mX9_init) (pc := 43) 20 dX9_init_43 rfl ?_
  refine vv_iload_n (mi := mX9_init) (pc := 20) 0 dX9_init_20 rfl rfl ?_
  refine vv_bipush (mi := mX9_init) (pc := 21) 16 dX9_init_21 rfl ?_
  refine vv_icmp_ge (mi := mX9_init) (pc := 23) 46 dX9_init_23 rfl (fun q => absurd q (by decide +kernel)) (fun c102 => ?_)
  refine vv_aload_n (mi := mX9_init) (pc := 26) 1 dX9_init_26 rfl rfl ?_
  obtain ⟨ht103, h⟩ := h
  refine vv_getR (mi := mX9_init) (pc := 27) 9 1 rfl ht103 fl_X9_17 (Nat.le_of_ble_eq_true rfl) dX9_init_27 ?_
  refine vv_iload_n (mi := mX9_init) (pc := 30) 0 dX9_init_30 rfl rfl ?_
  obtain ⟨n104, en104⟩ : ∃ z : Nat, z = ddZ M101 := ⟨_, rfl⟩
  replace h := h _ en104
  obtain ⟨M105, eM105⟩ : ∃ z : Mm, z = suN M101 2 0 := ⟨_, rfl⟩
  replace h := h _ eM105
  refine vv_new (mi := mX9_init) (pc := 31) 1 (r := (RX1, TX1, 3)) rfl (Nat.le_of_ble_eq_true rfl) rfl nw_1 cl_X9_15 it_1 iz_1 (Nat.le_of_ble_eq_true rfl) (Nat.le_of_ble_eq_true rfl) dX9_init_31 en104 eM105 ?_
  refine vv_dup (mi := mX9_init) (pc := 34) dX9_init_34 rfl ?_
  refine vv_iload_n (mi := mX9_init) (pc := 35) 0 dX9_init_35 rfl rfl ?_
  refine vv_callI (mi := mX9_init) (pc := 36) (rest := [.inr (.inr (some n104)), .inl 8, .inr (.inr (ddR M101 this 1))]) (As := [.inl 8]) (ctX1_init (X := X) h) dX9_init_36 rfl rfl rfl mb_X1_init rfl ml_X9_21 im_X1_init ⟨(Nat.le_of_ble_eq_true rfl), (Nat.le_of_ble_eq_true rfl)⟩ ⟨(Nat.le_of_ble_eq_true rfl), (Nat.le_of_ble_eq_true rfl)⟩ (Nat.le_of_ble_eq_true rfl) rfl (kV_ (F := fun st M' => VV X mX9_init rX9_init (pV_ post) 39 [(2, .inl 8), (0, .inr (.inr (some this))), (1, .inr (.inr a1))] st M' 10 43) (fun M107 h => ?_))
  obtain ⟨aq108, hs109, h⟩ := h
  obtain ⟨ht110, h⟩ := h
  obtain ⟨hi111, h⟩ := h
  obtain ⟨ht112, h⟩ := h
  obtain ⟨M113, eM113⟩ : ∃ z : Mm, z = suR M107 aq108 (Int32.toNatClampNeg 8) (some n104) := ⟨_, rfl⟩
  replace h := h _ eM113
  refine vv_aast (mi := mX9_init) (pc := 39) (t := 24) (ci := 1) (r := (RX1, TX1, 3)) (Nat.le_of_ble_eq_true rfl) (Nat.le_of_ble_eq_true rfl) rfl rfl rfl ht112 hs109 ht110 hi111 dX9_init_39 eM113 ?_
  refine vv_iinc (mi := mX9_init) (pc := 40) 9 0 [(2, .inl 9), (0, .inr (.inr (some this))), (1, .inr (.inr a1))] dX9_init_40 rfl rfl (Nat.le_of_ble_eq_true rfl) rfl ?_
  refine vv_goto (mi := mX9_init) (pc := 43) 20 dX9_init_43 rfl ?_
  refine vv_iload_n (mi := mX9_init) (pc := 20) 0 dX9_init_20 rfl rfl ?_
  refine vv_bipush (mi := mX9_init) (pc := 21) 16 dX9_init_21 rfl ?_
  refine vv_icmp_ge (mi := mX9_init) (pc := 23) 46 dX9_init_23 rfl (fun q => absurd q (by decide +kernel)) (fun c114 => ?_)
  refine vv_aload_n (mi := mX9_init) (pc := 26) 1 dX9_init_26 rfl rfl ?_
  obtain ⟨ht115, h⟩ := h
  refine vv_getR (mi := mX9_init) (pc := 27) 9 1 rfl ht115 fl_X9_17 (Nat.le_of_ble_eq_true rfl) dX9_init_27 ?_
  refine vv_iload_n (mi := mX9_init) (pc := 30) 0 dX9_init_30 rfl rfl ?_
  obtain ⟨n116, en116⟩ : ∃ z : Nat, z = ddZ M113 := ⟨_, rfl⟩
  replace h := h _ en116
  obtain ⟨M117, eM117⟩ : ∃ z : Mm, z = suN M113 2 0 := ⟨_, rfl⟩
  replace h := h _ eM117
  refine vv_new (mi := mX9_init) (pc := 31) 1 (r := (RX1, TX1, 3)) rfl (Nat.le_of_ble_eq_true rfl) rfl nw_1 cl_X9_15 it_1 iz_1 (Nat.le_of_ble_eq_true rfl) (Nat.le_of_ble_eq_true rfl) dX9_init_31 en116 eM117 ?_
  refine vv_dup (mi := mX9_init) (pc := 34) dX9_init_34 rfl ?_
  refine vv_iload_n (mi := mX9_init) (pc := 35) 0 dX9_init_35 rfl rfl ?_
  refine vv_callI (mi := mX9_init) (pc := 36) (rest := [.inr (.inr (some n116)), .inl 9, .inr (.inr (ddR M113 this 1))]) (As := [.inl 9]) (ctX1_init (X := X) h) dX9_init_36 rfl rfl rfl mb_X1_init rfl ml_X9_21 im_X1_init ⟨(Nat.le_of_ble_eq_true rfl), (Nat.le_of_ble_eq_true rfl)⟩ ⟨(Nat.le_of_ble_eq_true rfl), (Nat.le_of_ble_eq_true rfl)⟩ (Nat.le_of_ble_eq_true rfl) rfl (kV_ (F := fun st M' => VV X mX9_init rX9_init (pV_ post) 39 [(2, .inl 9), (0, .inr (.inr (some this))), (1, .inr (.inr a1))] st M' 11 46) (fun M119 h => ?_))
  obtain ⟨aq120, hs121, h⟩ := h
  obtain ⟨ht122, h⟩ := h
  obtain ⟨hi123, h⟩ := h
  obtain ⟨ht124, h⟩ := h
  obtain ⟨M125, eM125⟩ : ∃ z : Mm, z = suR M119 aq120 (Int32.toNatClampNeg 9) (some n116) := ⟨_, rfl⟩
  replace h := h _ eM125
  refine vv_aast (mi := mX9_init) (pc := 39) (t := 24) (ci := 1) (r := (RX1, TX1, 3)) (Nat.le_of_ble_eq_true rfl) (Nat.le_of_ble_eq_true rfl) rfl rfl rfl ht124 hs121 ht122 hi123 dX9_init_39 eM125 ?_
  refine vv_iinc (mi := mX9_init) (pc := 40) 10 0 [(2, .inl 10), (0, .inr (.inr (some this))), (1, .inr (.inr a1))] dX9_init_40 rfl rfl (Nat.le_of_ble_eq_true rfl) rfl ?_
  refine vv_goto (mi := mX9_init) (pc := 43) 20 dX9_init_43 rfl ?_
  refine vv_iload_n (mi := mX9_init) (pc := 20) 0 dX9_init_20 rfl rfl ?_
  refine vv_bipush (mi := mX9_init) (pc := 21) 16 dX9_init_21 rfl ?_
  refine vv_icmp_ge (mi := mX9_init) (pc := 23) 46 dX9_init_23 rfl (fun q => absurd q (by decide +kernel)) (fun c126 => ?_)
  refine vv_aload_n (mi := mX9_init) (pc := 26) 1 dX9_init_26 rfl rfl ?_
  obtain ⟨ht127, h⟩ := h
  refine vv_getR (mi := mX9_init) (pc := 27) 9 1 rfl ht127 fl_X9_17 (Nat.le_of_ble_eq_true rfl) dX9_init_27 ?_
  refine vv_iload_n (mi := mX9_init) (pc := 30) 0 dX9_init_30 rfl rfl ?_
  obtain ⟨n128, en128⟩ : ∃ z : Nat, z = ddZ M125 := ⟨_, rfl⟩
  replace h := h _ en128
  obtain ⟨M129, eM129⟩ : ∃ z : Mm, z = suN M125 2 0 := ⟨_, rfl⟩
  replace h := h _ eM129
  refine vv_new (mi := mX9_init) (pc := 31) 1 (r := (RX1, TX1, 3)) rfl (Nat.le_of_ble_eq_true rfl) rfl nw_1 cl_X9_15 it_1 iz_1 (Nat.le_of_ble_eq_true rfl) (Nat.le_of_ble_eq_true rfl) dX9_init_31 en128 eM129 ?_
  refine vv_dup (mi := mX9_init) (pc := 34) dX9_init_34 rfl ?_
  refine vv_iload_n (mi := mX9_init) (pc := 35) 0 dX9_init_35 rfl rfl ?_
  refine vv_callI (mi := mX9_init) (pc := 36) (rest := [.inr (.inr (some n128)), .inl 10, .inr (.inr (ddR M125 this 1))]) (As := [.inl 10]) (ctX1_init (X := X) h) dX9_init_36 rfl rfl rfl mb_X1_init rfl ml_X9_21 im_X1_init ⟨(Nat.le_of_ble_eq_true rfl), (Nat.le_of_ble_eq_true rfl)⟩ ⟨(Nat.le_of_ble_eq_true rfl), (Nat.le_of_ble_eq_true rfl)⟩ (Nat.le_of_ble_eq_true rfl) rfl (kV_ (F := fun st M' => VV X mX9_init rX9_init (pV_ post) 39 [(2, .inl 10), (0, .inr (.inr (some this))), (1, .inr (.inr a1))] st M' 12 49) (fun M131 h => ?_))
  obtain ⟨aq132, hs133, h⟩ := h
  obtain ⟨ht134, h⟩ := h
  obtain ⟨hi135, h⟩ := h
  obtain ⟨ht136, h⟩ := h
  obtain ⟨M137, eM137⟩ : ∃ z : Mm, z = suR M131 aq132 (Int32.toNatClampNeg 10) (some n128) := ⟨_, rfl⟩
  replace h := h _ eM137
  refine vv_aast (mi := mX9_init) (pc := 39) (t := 24) (ci := 1) (r := (RX1, TX1, 3)) (Nat.le_of_ble_eq_true rfl) (Nat.le_of_ble_eq_true rfl) rfl rfl rfl ht136 hs133 ht134 hi135 dX9_init_39 eM137 ?_
  refine vv_iinc (mi := mX9_init) (pc := 40) 11 0 [(2, .inl 11), (0, .inr (.inr (some this))), (1, .inr (.inr a1))] dX9_init_40 rfl rfl (Nat.le_of_ble_eq_true rfl) rfl ?_
  refine vv_goto (mi := mX9_init) (pc := 43) 20 dX9_init_43 rfl ?_
  refine vv_iload_n (mi := mX9_init) (pc := 20) 0 dX9_init_20 rfl rfl ?_
  refine vv_bipush (mi := mX9_init) (pc := 21) 16 dX9_init_21 rfl ?_
  refine vv_icmp_ge (mi := mX9_init) (pc := 23) 46 dX9_init_23 rfl (fun q => absurd q (by decide +kernel)) (fun c138 => ?_)
  refine vv_aload_n (mi := mX9_init) (pc := 26) 1 dX9_init_26 rfl rfl ?_
  obtain ⟨ht139, h⟩ := h
  refine vv_getR (mi := mX9_init) (pc := 27) 9 1 rfl ht139 fl_X9_17 (Nat.le_of_ble_eq_true rfl) dX9_init_27 ?_
  refine vv_iload_n (mi := mX9_init) (pc := 30) 0 dX9_init_30 rfl rfl ?_
  obtain ⟨n140, en140⟩ : ∃ z : Nat, z = ddZ M137 := ⟨_, rfl⟩
  replace h := h _ en140
  obtain ⟨M141, eM141⟩ : ∃ z : Mm, z = suN M137 2 0 := ⟨_, rfl⟩
  replace h := h _ eM141
  refine vv_new (mi := mX9_init) (pc := 31) 1 (r := (RX1, TX1, 3)) rfl (Nat.le_of_ble_eq_true rfl) rfl nw_1 cl_X9_15 it_1 iz_1 (Nat.le_of_ble_eq_true rfl) (Nat.le_of_ble_eq_true rfl) dX9_init_31 en140 eM141 ?_
  refine vv_dup (mi := mX9_init) (pc := 34) dX9_init_34 rfl ?_
  refine vv_iload_n (mi := mX9_init) (pc := 35) 0 dX9_init_35 rfl rfl ?_
  refine vv_callI (mi := mX9_init) (pc := 36) (rest := [.inr (.inr (some n140)), .inl 11, .inr (.inr (ddR M137 this 1))]) (As := [.inl 11]) (ctX1_init (X := X) h) dX9_init_36 rfl rfl rfl mb_X1_init rfl ml_X9_21 im_X1_init ⟨(Nat.le_of_ble_eq_true rfl), (Nat.le_of_ble_eq_true rfl)⟩ ⟨(Nat.le_of_ble_eq_true rfl), (Nat.le_of_ble_eq_true rfl)⟩ (Nat.le_of_ble_eq_true rfl) rfl (kV_ (F := fun st M' => VV X mX9_init rX9_init (pV_ post) 39 [(2, .inl 11), (0, .inr (.inr (some this))), (1, .inr (.inr a1))] st M' 13 52) (fun M143 h => ?_))
  obtain ⟨aq144, hs145, h⟩ := h
  obtain ⟨ht146, h⟩ := h
  obtain ⟨hi147, h⟩ := h
  obtain ⟨ht148, h⟩ := h
  obtain ⟨M149, eM149⟩ : ∃ z : Mm, z = suR M143 aq144 (Int32.toNatClampNeg 11) (some n140) := ⟨_, rfl⟩
  replace h := h _ eM149
  refine vv_aast (mi := mX9_init) (pc := 39) (t := 24) (ci := 1) (r := (RX1, TX1, 3)) (Nat.le_of_ble_eq_true rfl) (Nat.le_of_ble_eq_true rfl) rfl rfl rfl ht148 hs145 ht146 hi147 dX9_init_39 eM149 ?_
  refine vv_iinc (mi := mX9_init) (pc := 40) 12 0 [(2, .inl 12), (0, .inr (.inr (some this))), (1, .inr (.inr a1))] dX9_init_40 rfl rfl (Nat.le_of_ble_eq_true rfl) rfl ?_
  refine vv_goto (mi := mX9_init) (pc := 43) 20 dX9_init_43 rfl ?_
  refine vv_iload_n (mi := mX9_init) (pc := 20) 0 dX9_init_20 rfl rfl ?_
  refine vv_bipush (mi := mX9_init) (pc := 21) 16 dX9_init_21 rfl ?_
  refine vv_icmp_ge (mi := mX9_init) (pc := 23) 46 dX9_init_23 rfl (fun q => absurd q (by decide +kernel)) (fun c150 => ?_)
  refine vv_aload_n (mi := mX9_init) (pc := 26) 1 dX9_init_26 rfl rfl ?_
  obtain ⟨ht151, h⟩ := h
  refine vv_getR (mi := mX9_init) (pc := 27) 9 1 rfl ht151 fl_X9_17 (Nat.le_of_ble_eq_true rfl) dX9_init_27 ?_
  refine vv_iload_n (mi := mX9_init) (pc := 30) 0 dX9_init_30 rfl rfl ?_
  obtain ⟨n152, en152⟩ : ∃ z : Nat, z = ddZ M149 := ⟨_, rfl⟩
  replace h := h _ en152
  obtain ⟨M153, eM153⟩ : ∃ z : Mm, z = suN M149 2 0 := ⟨_, rfl⟩
  replace h := h _ eM153
  refine vv_new (mi := mX9_init) (pc := 31) 1 (r := (RX1, TX1, 3)) rfl (Nat.le_of_ble_eq_true rfl) rfl nw_1 cl_X9_15 it_1 iz_1 (Nat.le_of_ble_eq_true rfl) (Nat.le_of_ble_eq_true rfl) dX9_init_31 en152 eM153 ?_
  refine vv_dup (mi := mX9_init) (pc := 34) dX9_init_34 rfl ?_
  refine vv_iload_n (mi := mX9_init) (pc := 35) 0 dX9_init_35 rfl rfl ?_
  refine vv_callI (mi := mX9_init) (pc := 36) (rest := [.inr (.inr (some n152)), .inl 12, .inr (.inr (ddR M149 this 1))]) (As := [.inl 12]) (ctX1_init (X := X) h) dX9_init_36 rfl rfl rfl mb_X1_init rfl ml_X9_21 im_X1_init ⟨(Nat.le_of_ble_eq_true rfl), (Nat.le_of_ble_eq_true rfl)⟩ ⟨(Nat.le_of_ble_eq_true rfl), (Nat.le_of_ble_eq_true rfl)⟩ (Nat.le_of_ble_eq_true rfl) rfl (kV_ (F := fun st M' => VV X mX9_init rX9_init (pV_ post) 39 [(2, .inl 12), (0, .inr (.inr (some this))), (1, .inr (.inr a1))] st M' 14 55) (fun M155 h => ?_))
  obtain ⟨aq156, hs157, h⟩ := h
  obtain ⟨ht158, h⟩ := h
  obtain ⟨hi159, h⟩ := h
  obtain ⟨ht160, h⟩ := h
  obtain ⟨M161, eM161⟩ : ∃ z : Mm, z = suR M155 aq156 (Int32.toNatClampNeg 12) (some n152) := ⟨_, rfl⟩
  replace h := h _ eM161
  refine vv_aast (mi := mX9_init) (pc := 39) (t := 24) (ci := 1) (r := (RX1, TX1, 3)) (Nat.le_of_ble_eq_true rfl) (Nat.le_of_ble_eq_true rfl) rfl rfl rfl ht160 hs157 ht158 hi159 dX9_init_39 eM161 ?_
  refine vv_iinc (mi := mX9_init) (pc := 40) 13 0 [(2, .inl 13), (0, .inr (.inr (some this))), (1, .inr (.inr a1))] dX9_init_40 rfl rfl (Nat.le_of_ble_eq_true rfl) rfl ?_
  refine vv_goto (mi := mX9_init) (pc := 43) 20 dX9_init_43 rfl ?_
  refine vv_iload_n (mi := mX9_init) (pc := 20) 0 dX9_init_20 rfl rfl ?_
  refine vv_bipush (mi := mX9_init) (pc := 21) 16 dX9_init_21 rfl ?_
  refine vv_icmp_ge (mi := mX9_init) (pc := 23) 46 dX9_init_23 rfl (fun q => absurd q (by decide +kernel)) (fun c162 => ?_)
  refine vv_aload_n (mi := mX9_init) (pc := 26) 1 dX9_init_26 rfl rfl ?_
  obtain ⟨ht163, h⟩ := h
  refine vv_getR (mi := mX9_init) (pc := 27) 9 1 rfl ht163 fl_X9_17 (Nat.le_of_ble_eq_true rfl) dX9_init_27 ?_
  refine vv_iload_n (mi := mX9_init) (pc := 30) 0 dX9_init_30 rfl rfl ?_
  obtain ⟨n164, en164⟩ : ∃ z : Nat, z = ddZ M161 := ⟨_, rfl⟩
  replace h := h _ en164
  obtain ⟨M165, eM165⟩ : ∃ z : Mm, z = suN M161 2 0 := ⟨_, rfl⟩
  replace h := h _ eM165
  refine vv_new (mi := mX9_init) (pc := 31) 1 (r := (RX1, TX1, 3)) rfl (Nat.le_of_ble_eq_true rfl) rfl nw_1 cl_X9_15 it_1 iz_1 (Nat.le_of_ble_eq_true rfl) (Nat.le_of_ble_eq_true rfl) dX9_init_31 en164 eM165 ?_
  refine vv_dup (mi := mX9_init) (pc := 34) dX9_init_34 rfl ?_
  refine vv_iload_n (mi := mX9_init) (pc := 35) 0 dX9_init_35 rfl rfl ?_
  refine vv_callI (mi := mX9_init) (pc := 36) (rest := [.inr (.inr (some n164)), .inl 13, .inr (.inr (ddR M161 this 1))]) (As := [.inl 13]) (ctX1_init (X := X) h) dX9_init_36 rfl rfl rfl mb_X1_init rfl ml_X9_21 im_X1_init ⟨(Nat.le_of_ble_eq_true rfl), (Nat.le_of_ble_eq_true rfl)⟩ ⟨(Nat.le_of_ble_eq_true rfl), (Nat.le_of_ble_eq_true rfl)⟩ (Nat.le_of_ble_eq_true rfl) rfl (kV_ (F := fun st M' => VV X mX9_init rX9_init (pV_ post) 39 [(2, .inl 13), (0, .inr (.inr (some this))), (1, .inr (.inr a1))] st M' 15 58) (fun M167 h => ?_))
  obtain ⟨aq168, hs169, h⟩ := h
  obtain ⟨ht170, h⟩ := h
  obtain ⟨hi171, h⟩ := h
  obtain ⟨ht172, h⟩ := h
  obtain ⟨M173, eM173⟩ : ∃ z : Mm, z = suR M167 aq168 (Int32.toNatClampNeg 13) (some n164) := ⟨_, rfl⟩
  replace h := h _ eM173
  refine vv_aast (mi := mX9_init) (pc := 39) (t := 24) (ci := 1) (r := (RX1, TX1, 3)) (Nat.le_of_ble_eq_true rfl) (Nat.le_of_ble_eq_true rfl) rfl rfl rfl ht172 hs169 ht170 hi171 dX9_init_39 eM173 ?_
  refine vv_iinc (mi := mX9_init) (pc := 40) 14 0 [(2, .inl 14), (0, .inr (.inr (some this))), (1, .inr (.inr a1))] dX9_init_40 rfl rfl (Nat.le_of_ble_eq_true rfl) rfl ?_
  refine vv_goto (mi := mX9_init) (pc := 43) 20 dX9_init_43 rfl ?_
  refine vv_iload_n (mi := mX9_init) (pc := 20) 0 dX9_init_20 rfl rfl ?_
  refine vv_bipush (mi := mX9_init) (pc := 21) 16 dX9_init_21 rfl ?_
  refine vv_icmp_ge (mi := mX9_init) (pc := 23) 46 dX9_init_23 rfl (fun q => absurd q (by decide +kernel)) (fun c174 => ?_)
  refine vv_aload_n (mi := mX9_init) (pc := 26) 1 dX9_init_26 rfl rfl ?_
  obtain ⟨ht175, h⟩ := h
  refine vv_getR (mi := mX9_init) (pc := 27) 9 1 rfl ht175 fl_X9_17 (Nat.le_of_ble_eq_true rfl) dX9_init_27 ?_
  refine vv_iload_n (mi := mX9_init) (pc := 30) 0 dX9_init_30 rfl rfl ?_
  obtain ⟨n176, en176⟩ : ∃ z : Nat, z = ddZ M173 := ⟨_, rfl⟩
  replace h := h _ en176
  obtain ⟨M177, eM177⟩ : ∃ z : Mm, z = suN M173 2 0 := ⟨_, rfl⟩
  replace h := h _ eM177
  refine vv_new (mi := mX9_init) (pc := 31) 1 (r := (RX1, TX1, 3)) rfl (Nat.le_of_ble_eq_true rfl) rfl nw_1 cl_X9_15 it_1 iz_1 (Nat.le_of_ble_eq_true rfl) (Nat.le_of_ble_eq_true rfl) dX9_init_31 en176 eM177 ?_
  refine vv_dup (mi := mX9_init) (pc := 34) dX9_init_34 rfl ?_
  refine vv_iload_n (mi := mX9_init) (pc := 35) 0 dX9_init_35 rfl rfl ?_
  refine vv_callI (mi := mX9_init) (pc := 36) (rest := [.inr (.inr (some n176)), .inl 14, .inr (.inr (ddR M173 this 1))]) (As := [.inl 14]) (ctX1_init (X := X) h) dX9_init_36 rfl rfl rfl mb_X1_init rfl ml_X9_21 im_X1_init ⟨(Nat.le_of_ble_eq_true rfl), (Nat.le_of_ble_eq_true rfl)⟩ ⟨(Nat.le_of_ble_eq_true rfl), (Nat.le_of_ble_eq_true rfl)⟩ (Nat.le_of_ble_eq_true rfl) rfl (kV_ (F := fun st M' => VV X mX9_init rX9_init (pV_ post) 39 [(2, .inl 14), (0, .inr (.inr (some this))), (1, .inr (.inr a1))] st M' 16 61) (fun M179 h => ?_))
  obtain ⟨aq180, hs181, h⟩ := h
  obtain ⟨ht182, h⟩ := h
  obtain ⟨hi183, h⟩ := h
  obtain ⟨ht184, h⟩ := h
  obtain ⟨M185, eM185⟩ : ∃ z : Mm, z = suR M179 aq180 (Int32.toNatClampNeg 14) (some n176) := ⟨_, rfl⟩
  replace h := h _ eM185
  refine vv_aast (mi := mX9_init) (pc := 39) (t := 24) (ci := 1) (r := (RX1, TX1, 3)) (Nat.le_of_ble_eq_true rfl) (Nat.le_of_ble_eq_true rfl) rfl rfl rfl ht184 hs181 ht182 hi183 dX9_init_39 eM185 ?_
  refine vv_iinc (mi := mX9_init) (pc := 40) 15 0 [(2, .inl 15), (0, .inr (.inr (some this))), (1, .inr (.inr a1))] dX9_init_40 rfl rfl (Nat.le_of_ble_eq_true rfl) rfl ?_
  refine vv_goto (mi := mX9_init) (pc := 43) 20 dX9_init_43 rfl ?_
  refine vv_iload_n (mi := mX9_init) (pc := 20) 0 dX9_init_20 rfl rfl ?_
  refine vv_bipush (mi := mX9_init) (pc := 21) 16 dX9_init_21 rfl ?_
  refine vv_icmp_ge (mi := mX9_init) (pc := 23) 46 dX9_init_23 rfl (fun q => absurd q (by decide +kernel)) (fun c186 => ?_)
  refine vv_aload_n (mi := mX9_init) (pc := 26) 1 dX9_init_26 rfl rfl ?_
  obtain ⟨ht187, h⟩ := h
  refine vv_getR (mi := mX9_init) (pc := 27) 9 1 rfl ht187 fl_X9_17 (Nat.le_of_ble_eq_true rfl) dX9_init_27 ?_
  refine vv_iload_n (mi := mX9_init) (pc := 30) 0 dX9_init_30 rfl rfl ?_
  obtain ⟨n188, en188⟩ : ∃ z : Nat, z = ddZ M185 := ⟨_, rfl⟩
  replace h := h _ en188
  obtain ⟨M189, eM189⟩ : ∃ z : Mm, z = suN M185 2 0 := ⟨_, rfl⟩
  replace h := h _ eM189
  refine vv_new (mi := mX9_init) (pc := 31) 1 (r := (RX1, TX1, 3)) rfl (Nat.le_of_ble_eq_true rfl) rfl nw_1 cl_X9_15 it_1 iz_1 (Nat.le_of_ble_eq_true rfl) (Nat.le_of_ble_eq_true rfl) dX9_init_31 en188 eM189 ?_
  refine vv_dup (mi := mX9_init) (pc := 34) dX9_init_34 rfl ?_
  refine vv_iload_n (mi := mX9_init) (pc := 35) 0 dX9_init_35 rfl rfl ?_
  refine vv_callI (mi := mX9_init) (pc := 36) (rest := [.inr (.inr (some n188)), .inl 15, .inr (.inr (ddR M185 this 1))]) (As := [.inl 15]) (ctX1_init (X := X) h) dX9_init_36 rfl rfl rfl mb_X1_init rfl ml_X9_21 im_X1_init ⟨(Nat.le_of_ble_eq_true rfl), (Nat.le_of_ble_eq_true rfl)⟩ ⟨(Nat.le_of_ble_eq_true rfl), (Nat.le_of_ble_eq_true rfl)⟩ (Nat.le_of_ble_eq_true rfl) rfl (kV_ (F := fun st M' => VV X mX9_init rX9_init (pV_ post) 39 [(2, .inl 15), (0, .inr (.inr (some this))), (1, .inr (.inr a1))] st M' 17 64) (fun M191 h => ?_))
  obtain ⟨aq192, hs193, h⟩ := h
  obtain ⟨ht194, h⟩ := h
  obtain ⟨hi195, h⟩ := h
  obtain ⟨ht196, h⟩ := h
  obtain ⟨M197, eM197⟩ : ∃ z : Mm, z = suR M191 aq192 (Int32.toNatClampNeg 15) (some n188) := ⟨_, rfl⟩
  replace h := h _ eM197
  refine vv_aast (mi := mX9_init) (pc := 39) (t := 24) (ci := 1) (r := (RX1, TX1, 3)) (Nat.le_of_ble_eq_true rfl) (Nat.le_of_ble_eq_true rfl) rfl rfl rfl ht196 hs193 ht194 hi195 dX9_init_39 eM197 ?_
  refine vv_iinc (mi := mX9_init) (pc := 40) 16 0 [(2, .inl 16), (0, .inr (.inr (some this))), (1, .inr (.inr a1))] dX9_init_40 rfl rfl (Nat.le_of_ble_eq_true rfl) rfl ?_
  refine vv_goto (mi := mX9_init) (pc := 43) 20 dX9_init_43 rfl ?_
  refine vv_iload_n (mi := mX9_init) (pc := 20) 0 dX9_init_20 rfl rfl ?_
  refine vv_bipush (mi := mX9_init) (pc := 21) 16 dX9_init_21 rfl ?_
  refine vv_icmp_ge (mi := mX9_init) (pc := 23) 46 dX9_init_23 rfl (fun c198 => ?_) (fun q => absurd q (by decide +kernel))
  refine vv_aload_n (mi := mX9_init) (pc := 46) 1 dX9_init_46 rfl rfl ?_
  refine vv_bipush (mi := mX9_init) (pc := 47) 8 dX9_init_47 rfl ?_
  obtain ⟨n199, en199⟩ : ∃ z : Nat, z = ddZ M197 := ⟨_, rfl⟩
  replace h := h _ en199
  obtain ⟨M200, eM200⟩ : ∃ z : Mm, z = suN M197 27 8 := ⟨_, rfl⟩
  replace h := h _ eM200
  refine vv_anew (mi := mX9_init) (pc := 49) 27 8 "DialDesk$Option" (Nat.le_of_ble_eq_true rfl) rfl cl_X9_24 ao_27 (by decide +kernel) rfl (Nat.le_of_ble_eq_true rfl) (Nat.le_of_ble_eq_true rfl) (Nat.le_of_ble_eq_true rfl) dX9_init_49 en199 eM200 ?_
  obtain ⟨ht201, h⟩ := h
  obtain ⟨M202, eM202⟩ : ∃ z : Mm, z = suR M200 this 2 (some n199) := ⟨_, rfl⟩
  replace h := h _ eM202
  refine vv_putR (mi := mX9_init) (pc := 52) 9 2 (.array (.object "DialDesk$Option")) rfl rfl ht201 fq_X9_26 (fun _ => rfl) rfl (Nat.le_of_ble_eq_true rfl) dX9_init_52 eM202 ?_
  refine vv_aload_n (mi := mX9_init) (pc := 55) 1 dX9_init_55 rfl rfl ?_
  refine vv_sipush (mi := mX9_init) (pc := 56) 249 dX9_init_56 rfl ?_
  obtain ⟨n203, en203⟩ : ∃ z : Nat, z = ddZ M202 := ⟨_, rfl⟩
  replace h := h _ en203
  obtain ⟨M204, eM204⟩ : ∃ z : Mm, z = suN M202 20 249 := ⟨_, rfl⟩
  replace h := h _ eM204
  refine vv_newa (mi := mX9_init) (pc := 59) 20 249 .int (Or.inl ⟨rfl, rfl⟩) ac_int (by decide +kernel) rfl (Nat.le_of_ble_eq_true rfl) (Nat.le_of_ble_eq_true rfl) (Nat.le_of_ble_eq_true rfl) dX9_init_59 en203 eM204 ?_
  obtain ⟨ht205, h⟩ := h
  obtain ⟨M206, eM206⟩ : ∃ z : Mm, z = suR M204 this 4 (some n203) := ⟨_, rfl⟩
  replace h := h _ eM206
  refine vv_putR (mi := mX9_init) (pc := 61) 9 4 (.array .int) rfl rfl ht205 fq_X9_30 (fun _ => rfl) rfl (Nat.le_of_ble_eq_true rfl) dX9_init_61 eM206 ?_
  refine vv_aload_n (mi := mX9_init) (pc := 64) 1 dX9_init_64 rfl rfl ?_
  refine vv_sipush (mi := mX9_init) (pc := 65) 249 dX9_init_65 rfl ?_
  obtain ⟨n207, en207⟩ : ∃ z : Nat, z = ddZ M206 := ⟨_, rfl⟩
  replace h := h _ en207
  obtain ⟨M208, eM208⟩ : ∃ z : Mm, z = suN M206 21 249 := ⟨_, rfl⟩
  replace h := h _ eM208
  refine vv_newa (mi := mX9_init) (pc := 68) 21 249 .long (Or.inr (Or.inl ⟨rfl, rfl⟩)) ac_long (by decide +kernel) rfl (Nat.le_of_ble_eq_true rfl) (Nat.le_of_ble_eq_true rfl) (Nat.le_of_ble_eq_true rfl) dX9_init_68 en207 eM208 ?_
  obtain ⟨ht209, h⟩ := h
  obtain ⟨M210, eM210⟩ : ∃ z : Mm, z = suR M208 this 5 (some n207) := ⟨_, rfl⟩
  replace h := h _ eM210
  refine vv_putR (mi := mX9_init) (pc := 70) 9 5 (.array .long) rfl rfl ht209 fq_X9_34 (fun _ => rfl) rfl (Nat.le_of_ble_eq_true rfl) dX9_init_70 eM210 ?_
  exact vv_vret (mi := mX9_init) (pc := 73) dX9_init_73 rfl (Nat.le_of_ble_eq_true rfl) (Nat.le_of_ble_eq_true rfl) h
