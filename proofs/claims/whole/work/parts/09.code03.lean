set_option maxHeartbeats 4000000 in
set_option maxRecDepth 100000 in
theorem ctX10_entry {X : Cx_} {this : Nat} {a1 : Int32} {a2 : Int32} {M : Mm} {post : Int32 → Mm → Prop} (h : PX10_entry this a1 a2 M post) : CT X mX10_entry rX10_entry [.inr (.inr (some this)), .inl a1, .inl a2] M (pI_ post) := by
  unfold PX10_entry at h
  refine CT.of (by decide +kernel) (Nat.le_of_ble_eq_true rfl) ?_
  show VV X mX10_entry rX10_entry (pI_ post) 0 [(0, .inr (.inr (some this))), (1, .inl a1), (2, .inl a2)] [] M 0 0
  refine vv_aload_n (mi := mX10_entry) (pc := 0) 0 dX10_entry_0 rfl rfl ?_
  obtain ⟨ht1, h⟩ := h
  refine vv_getR (mi := mX10_entry) (pc := 1) 10 0 rfl ht1 fl_X10_10 (Nat.le_of_ble_eq_true rfl) dX10_entry_1 ?_
  refine vv_iload_n (mi := mX10_entry) (pc := 4) 1 dX10_entry_4 rfl rfl ?_
  obtain ⟨aq2, hs3, h⟩ := h
  obtain ⟨ht4, h⟩ := h
  refine vv_callV (mi := mX10_entry) (pc := 5) (rest := []) (As := [.inl a1]) (ctX6_entryAt (X := X) h) dX10_entry_5 hs3 ht4 (Nat.le_of_ble_eq_true rfl) rfl mb_X6_entryAt rfl ml_X10_68 im_X6_entryAt se_X6_entryAt ⟨(Nat.le_of_ble_eq_true rfl), (Nat.le_of_ble_eq_true rfl)⟩ ⟨(Nat.le_of_ble_eq_true rfl), (Nat.le_of_ble_eq_true rfl)⟩ (Nat.le_of_ble_eq_true rfl) rfl (kR_ (F := fun st M' => VV X mX10_entry rX10_entry (pI_ post) 8 [(0, .inr (.inr (some this))), (1, .inl a1), (2, .inl a2)] st M' 0 0) (fun r5 M6 h => ?_))
  refine vv_astore_n (mi := mX10_entry) (pc := 8) [(3, .inr (.inr r5)), (0, .inr (.inr (some this))), (1, .inl a1), (2, .inl a2)] dX10_entry_8 rfl (Nat.le_of_ble_eq_true rfl) rfl ?_
  refine vv_aload_n (mi := mX10_entry) (pc := 9) 0 dX10_entry_9 rfl rfl ?_
  refine vv_ifnonnull (mi := mX10_entry) (pc := 10) 17 dX10_entry_10 rfl (fun aq8 c7 => ?_) (fun c7 => ?_)
  · replace h := h.2 aq8 c7
    refine vv_aload_n (mi := mX10_entry) (pc := 17) 0 dX10_entry_17 rfl rfl ?_
    refine vv_iload_n (mi := mX10_entry) (pc := 18) 3 dX10_entry_18 rfl rfl ?_
    obtain ⟨ht9, h⟩ := h
    refine vv_callV (mi := mX10_entry) (pc := 19) (rest := []) (As := [.inl a2]) (ctX2_tell (X := X) h) dX10_entry_19 c7 ht9 (Nat.le_of_ble_eq_true rfl) rfl mb_X2_tell rfl ml_X10_111 im_X2_tell se_X2_tell ⟨(Nat.le_of_ble_eq_true rfl), (Nat.le_of_ble_eq_true rfl)⟩ ⟨(Nat.le_of_ble_eq_true rfl), (Nat.le_of_ble_eq_true rfl)⟩ (Nat.le_of_ble_eq_true rfl) rfl (kI_ (F := fun st M' => VV X mX10_entry rX10_entry (pI_ post) 22 [(3, .inr (.inr r5)), (0, .inr (.inr (some this))), (1, .inl a1), (2, .inl a2)] st M' 0 0) (fun r10 M11 h => ?_))
    exact vv_iret (mi := mX10_entry) (pc := 22) dX10_entry_22 rfl (Nat.le_of_ble_eq_true rfl) (Nat.le_of_ble_eq_true rfl) h
  · replace h := h.1 c7
    refine vv_iconst (mi := mX10_entry) (pc := 13) (-1) dX10_entry_13 rfl ?_
    refine vv_goto (mi := mX10_entry) (pc := 14) 22 dX10_entry_14 rfl ?_
    exact vv_iret (mi := mX10_entry) (pc := 22) dX10_entry_22 rfl (Nat.le_of_ble_eq_true rfl) (Nat.le_of_ble_eq_true rfl) h
set_option maxHeartbeats 4000000 in
set_option maxRecDepth 100000 in
theorem ctX10_isDay {X : Cx_} {a1 : Int32} {M : Mm} {post : Int32 → Mm → Prop} (h : PX10_isDay a1 M post) : CT X mX10_isDay rX10_isDay [.inl a1] M (pI_ post) := by
  unfold PX10_isDay at h
  refine CT.of (by decide +kernel) (Nat.le_of_ble_eq_true rfl) ?_
  show VV X mX10_isDay rX10_isDay (pI_ post) 0 [(0, .inl a1)] [] M 0 0
  refine vv_iload_n (mi := mX10_isDay) (pc := 0) 0 dX10_isDay_0 rfl rfl ?_
  refine vv_iconst (mi := mX10_isDay) (pc := 1) 0 dX10_isDay_1 rfl ?_
  refine vv_sipush (mi := mX10_isDay) (pc := 2) 20000 dX10_isDay_2 rfl ?_
  refine vv_callS (mi := mX10_isDay) (pc := 5) (rest := []) (As := [.inl a1, .inl 0, .inl 20000]) (ctX10_isWithin (X := X) h) dX10_isDay_5 mb_X10_isWithin rfl ml_X10_64 sc_X10_isWithin ⟨(Nat.le_of_ble_eq_true rfl), (Nat.le_of_ble_eq_true rfl)⟩ ⟨(Nat.le_of_ble_eq_true rfl), (Nat.le_of_ble_eq_true rfl)⟩ (Nat.le_of_ble_eq_true rfl) rfl (kI_ (F := fun st M' => VV X mX10_isDay rX10_isDay (pI_ post) 8 [(0, .inl a1)] st M' 0 0) (fun r1 M2 h => ?_))
  obtain ⟨hz3, h⟩ := h
  exact vv_zret (mi := mX10_isDay) (pc := 8) dX10_isDay_8 rfl hz3 (Nat.le_of_ble_eq_true rfl) (Nat.le_of_ble_eq_true rfl) h
set_option maxHeartbeats 4000000 in
set_option maxRecDepth 100000 in
theorem ctX10_pairs {X : Cx_} {this : Nat} {a1 : Int32} {M : Mm} {post : Int32 → Mm → Prop} (h : PX10_pairs this a1 M post) : CT X mX10_pairs rX10_pairs [.inr (.inr (some this)), .inl a1] M (pI_ post) := by
  unfold PX10_pairs at h
  refine CT.of (by decide +kernel) (Nat.le_of_ble_eq_true rfl) ?_
  show VV X mX10_pairs rX10_pairs (pI_ post) 0 [(0, .inr (.inr (some this))), (1, .inl a1)] [] M 0 0
  refine vv_iload_n (mi := mX10_pairs) (pc := 0) 1 dX10_pairs_0 rfl rfl ?_
  refine vv_callS (mi := mX10_pairs) (pc := 1) (rest := []) (As := [.inl a1]) (ctX10_isDay (X := X) h) dX10_pairs_1 mb_X10_isDay rfl ml_X10_115 sc_X10_isDay ⟨(Nat.le_of_ble_eq_true rfl), (Nat.le_of_ble_eq_true rfl)⟩ ⟨(Nat.le_of_ble_eq_true rfl), (Nat.le_of_ble_eq_true rfl)⟩ (Nat.le_of_ble_eq_true rfl) rfl (kI_ (F := fun st M' => VV X mX10_pairs rX10_pairs (pI_ post) 4 [(0, .inr (.inr (some this))), (1, .inl a1)] st M' 0 0) (fun r1 M2 h => ?_))
  refine vv_if_eq (mi := mX10_pairs) (pc := 4) 18 dX10_pairs_4 rfl (fun c3 => ?_) (fun c3 => ?_)
  · replace h := h.1 c3
    refine vv_bipush (mi := mX10_pairs) (pc := 18) (-2) dX10_pairs_18 rfl ?_
    exact vv_iret (mi := mX10_pairs) (pc := 20) dX10_pairs_20 rfl (Nat.le_of_ble_eq_true rfl) (Nat.le_of_ble_eq_true rfl) h
  · replace h := h.2 c3
    refine vv_aload_n (mi := mX10_pairs) (pc := 7) 0 dX10_pairs_7 rfl rfl ?_
    obtain ⟨ht4, h⟩ := h
    refine vv_getR (mi := mX10_pairs) (pc := 8) 10 0 rfl ht4 fl_X10_10 (Nat.le_of_ble_eq_true rfl) dX10_pairs_8 ?_
    refine vv_iload_n (mi := mX10_pairs) (pc := 11) 1 dX10_pairs_11 rfl rfl ?_
    obtain ⟨aq5, hs6, h⟩ := h
    obtain ⟨ht7, h⟩ := h
    refine vv_callV (mi := mX10_pairs) (pc := 12) (rest := []) (As := [.inl a1]) (ctX6_pairsOn (X := X) h) dX10_pairs_12 hs6 ht7 (Nat.le_of_ble_eq_true rfl) rfl mb_X6_pairsOn rfl ml_X10_118 im_X6_pairsOn se_X6_pairsOn ⟨(Nat.le_of_ble_eq_true rfl), (Nat.le_of_ble_eq_true rfl)⟩ ⟨(Nat.le_of_ble_eq_true rfl), (Nat.le_of_ble_eq_true rfl)⟩ (Nat.le_of_ble_eq_true rfl) rfl (kI_ (F := fun st M' => VV X mX10_pairs rX10_pairs (pI_ post) 15 [(0, .inr (.inr (some this))), (1, .inl a1)] st M' 0 0) (fun r8 M9 h => ?_))
    refine vv_goto (mi := mX10_pairs) (pc := 15) 20 dX10_pairs_15 rfl ?_
    exact vv_iret (mi := mX10_pairs) (pc := 20) dX10_pairs_20 rfl (Nat.le_of_ble_eq_true rfl) (Nat.le_of_ble_eq_true rfl) h
set_option maxHeartbeats 4000000 in
set_option maxRecDepth 100000 in
theorem ctX10_pair {X : Cx_} {this : Nat} {a1 : Int32} {a2 : Int32} {a3 : Int32} {M : Mm} {post : Int32 → Mm → Prop} (h : PX10_pair this a1 a2 a3 M post) : CT X mX10_pair rX10_pair [.inr (.inr (some this)), .inl a1, .inl a2, .inl a3] M (pI_ post) := by
  unfold PX10_pair at h
  refine CT.of (by decide +kernel) (Nat.le_of_ble_eq_true rfl) ?_
  show VV X mX10_pair rX10_pair (pI_ post) 0 [(0, .inr (.inr (some this))), (1, .inl a1), (2, .inl a2), (3, .inl a3)] [] M 0 0
  refine vv_iload_n (mi := mX10_pair) (pc := 0) 1 dX10_pair_0 rfl rfl ?_
  refine vv_callS (mi := mX10_pair) (pc := 1) (rest := []) (As := [.inl a1]) (ctX10_isDay (X := X) h) dX10_pair_1 mb_X10_isDay rfl ml_X10_115 sc_X10_isDay ⟨(Nat.le_of_ble_eq_true rfl), (Nat.le_of_ble_eq_true rfl)⟩ ⟨(Nat.le_of_ble_eq_true rfl), (Nat.le_of_ble_eq_true rfl)⟩ (Nat.le_of_ble_eq_true rfl) rfl (kI_ (F := fun st M' => VV X mX10_pair rX10_pair (pI_ post) 4 [(0, .inr (.inr (some this))), (1, .inl a1), (2, .inl a2), (3, .inl a3)] st M' 0 0) (fun r1 M2 h => ?_))
  refine vv_if_eq (mi := mX10_pair) (pc := 4) 20 dX10_pair_4 rfl (fun c3 => ?_) (fun c3 => ?_)
  · replace h := h.1 c3
    refine vv_iconst (mi := mX10_pair) (pc := 20) (-1) dX10_pair_20 rfl ?_
    exact vv_iret (mi := mX10_pair) (pc := 21) dX10_pair_21 rfl (Nat.le_of_ble_eq_true rfl) (Nat.le_of_ble_eq_true rfl) h
  · replace h := h.2 c3
    refine vv_iload_n (mi := mX10_pair) (pc := 7) 2 dX10_pair_7 rfl rfl ?_
    refine vv_if_lt (mi := mX10_pair) (pc := 8) 20 dX10_pair_8 rfl (fun c4 => ?_) (fun c4 => ?_)
    · replace h := h.1 c4
      refine vv_iconst (mi := mX10_pair) (pc := 20) (-1) dX10_pair_20 rfl ?_
      exact vv_iret (mi := mX10_pair) (pc := 21) dX10_pair_21 rfl (Nat.le_of_ble_eq_true rfl) (Nat.le_of_ble_eq_true rfl) h
    · replace h := h.2 c4
      refine vv_iload_n (mi := mX10_pair) (pc := 11) 3 dX10_pair_11 rfl rfl ?_
      refine vv_iconst (mi := mX10_pair) (pc := 12) 0 dX10_pair_12 rfl ?_
      refine vv_iconst (mi := mX10_pair) (pc := 13) 1 dX10_pair_13 rfl ?_
      refine vv_callS (mi := mX10_pair) (pc := 14) (rest := []) (As := [.inl a3, .inl 0, .inl 1]) (ctX10_isWithin (X := X) h) dX10_pair_14 mb_X10_isWithin rfl ml_X10_64 sc_X10_isWithin ⟨(Nat.le_of_ble_eq_true rfl), (Nat.le_of_ble_eq_true rfl)⟩ ⟨(Nat.le_of_ble_eq_true rfl), (Nat.le_of_ble_eq_true rfl)⟩ (Nat.le_of_ble_eq_true rfl) rfl (kI_ (F := fun st M' => VV X mX10_pair rX10_pair (pI_ post) 17 [(0, .inr (.inr (some this))), (1, .inl a1), (2, .inl a2), (3, .inl a3)] st M' 0 0) (fun r5 M6 h => ?_))
      refine vv_if_ne (mi := mX10_pair) (pc := 17) 22 dX10_pair_17 rfl (fun c7 => ?_) (fun c7 => ?_)
      · replace h := h.1 c7
        refine vv_aload_n (mi := mX10_pair) (pc := 22) 0 dX10_pair_22 rfl rfl ?_
        obtain ⟨ht8, h⟩ := h
        refine vv_getR (mi := mX10_pair) (pc := 23) 10 0 rfl ht8 fl_X10_10 (Nat.le_of_ble_eq_true rfl) dX10_pair_23 ?_
        refine vv_iload_n (mi := mX10_pair) (pc := 26) 1 dX10_pair_26 rfl rfl ?_
        refine vv_iload_n (mi := mX10_pair) (pc := 27) 2 dX10_pair_27 rfl rfl ?_
        refine vv_iload_n (mi := mX10_pair) (pc := 28) 3 dX10_pair_28 rfl rfl ?_
        obtain ⟨aq9, hs10, h⟩ := h
        obtain ⟨ht11, h⟩ := h
        refine vv_callV (mi := mX10_pair) (pc := 29) (rest := []) (As := [.inl a1, .inl a2, .inl a3]) (ctX6_pairOn (X := X) h) dX10_pair_29 hs10 ht11 (Nat.le_of_ble_eq_true rfl) rfl mb_X6_pairOn rfl ml_X10_121 im_X6_pairOn se_X6_pairOn ⟨(Nat.le_of_ble_eq_true rfl), (Nat.le_of_ble_eq_true rfl)⟩ ⟨(Nat.le_of_ble_eq_true rfl), (Nat.le_of_ble_eq_true rfl)⟩ (Nat.le_of_ble_eq_true rfl) rfl (kI_ (F := fun st M' => VV X mX10_pair rX10_pair (pI_ post) 32 [(0, .inr (.inr (some this))), (1, .inl a1), (2, .inl a2), (3, .inl a3)] st M' 0 0) (fun r12 M13 h => ?_))
        exact vv_iret (mi := mX10_pair) (pc := 32) dX10_pair_32 rfl (Nat.le_of_ble_eq_true rfl) (Nat.le_of_ble_eq_true rfl) h
      · replace h := h.2 c7
        refine vv_iconst (mi := mX10_pair) (pc := 20) (-1) dX10_pair_20 rfl ?_
        exact vv_iret (mi := mX10_pair) (pc := 21) dX10_pair_21 rfl (Nat.le_of_ble_eq_true rfl) (Nat.le_of_ble_eq_true rfl) h
set_option maxHeartbeats 4000000 in
set_option maxRecDepth 100000 in
theorem ctX10_line {X : Cx_} {this : Nat} {a1 : Int32} {a2 : Int32} {M : Mm} {post : Int32 → Mm → Prop} (h : PX10_line this a1 a2 M post) : CT X mX10_line rX10_line [.inr (.inr (some this)), .inl a1, .inl a2] M (pI_ post) := by
  unfold PX10_line at h
  refine CT.of (by decide +kernel) (Nat.le_of_ble_eq_true rfl) ?_
  show VV X mX10_line rX10_line (pI_ post) 0 [(0, .inr (.inr (some this))), (1, .inl a1), (2, .inl a2)] [] M 0 0
  refine vv_aload_n (mi := mX10_line) (pc := 0) 0 dX10_line_0 rfl rfl ?_
  obtain ⟨ht1, h⟩ := h
  refine vv_getR (mi := mX10_line) (pc := 1) 10 0 rfl ht1 fl_X10_10 (Nat.le_of_ble_eq_true rfl) dX10_line_1 ?_
  refine vv_iload_n (mi := mX10_line) (pc := 4) 1 dX10_line_4 rfl rfl ?_
  obtain ⟨aq2, hs3, h⟩ := h
  obtain ⟨ht4, h⟩ := h
  refine vv_callV (mi := mX10_line) (pc := 5) (rest := []) (As := [.inl a1]) (ctX6_blockAt (X := X) h) dX10_line_5 hs3 ht4 (Nat.le_of_ble_eq_true rfl) rfl mb_X6_blockAt rfl ml_X10_81 im_X6_blockAt se_X6_blockAt ⟨(Nat.le_of_ble_eq_true rfl), (Nat.le_of_ble_eq_true rfl)⟩ ⟨(Nat.le_of_ble_eq_true rfl), (Nat.le_of_ble_eq_true rfl)⟩ (Nat.le_of_ble_eq_true rfl) rfl (kR_ (F := fun st M' => VV X mX10_line rX10_line (pI_ post) 8 [(0, .inr (.inr (some this))), (1, .inl a1), (2, .inl a2)] st M' 0 0) (fun r5 M6 h => ?_))
  refine vv_astore_n (mi := mX10_line) (pc := 8) [(3, .inr (.inr r5)), (0, .inr (.inr (some this))), (1, .inl a1), (2, .inl a2)] dX10_line_8 rfl (Nat.le_of_ble_eq_true rfl) rfl ?_
  refine vv_aload_n (mi := mX10_line) (pc := 9) 0 dX10_line_9 rfl rfl ?_
  refine vv_ifnull (mi := mX10_line) (pc := 10) 32 dX10_line_10 rfl (fun c7 => ?_) (fun aq8 c7 => ?_)
  · replace h := h.1 c7
    refine vv_bipush (mi := mX10_line) (pc := 32) (-2) dX10_line_32 rfl ?_
    exact vv_iret (mi := mX10_line) (pc := 34) dX10_line_34 rfl (Nat.le_of_ble_eq_true rfl) (Nat.le_of_ble_eq_true rfl) h
  · replace h := h.2 aq8 c7
    refine vv_aload_n (mi := mX10_line) (pc := 13) 0 dX10_line_13 rfl rfl ?_
    refine vv_aload_n (mi := mX10_line) (pc := 14) 1 dX10_line_14 rfl rfl ?_
    obtain ⟨ht9, h⟩ := h
    refine vv_getI (mi := mX10_line) (pc := 15) 10 4 rfl ht9 fl_X10_39 (Nat.le_of_ble_eq_true rfl) dX10_line_15 ?_
    obtain ⟨ht10, h⟩ := h
    refine vv_callV (mi := mX10_line) (pc := 18) (rest := []) (As := [.inl (ddI M6 this 4)]) (ctX2_isInForce (X := X) h) dX10_line_18 c7 ht10 (Nat.le_of_ble_eq_true rfl) rfl mb_X2_isInForce rfl ml_X10_125 im_X2_isInForce se_X2_isInForce ⟨(Nat.le_of_ble_eq_true rfl), (Nat.le_of_ble_eq_true rfl)⟩ ⟨(Nat.le_of_ble_eq_true rfl), (Nat.le_of_ble_eq_true rfl)⟩ (Nat.le_of_ble_eq_true rfl) rfl (kI_ (F := fun st M' => VV X mX10_line rX10_line (pI_ post) 21 [(3, .inr (.inr r5)), (0, .inr (.inr (some this))), (1, .inl a1), (2, .inl a2)] st M' 0 0) (fun r11 M12 h => ?_))
    refine vv_if_eq (mi := mX10_line) (pc := 21) 32 dX10_line_21 rfl (fun c13 => ?_) (fun c13 => ?_)
    · replace h := h.1 c13
      refine vv_bipush (mi := mX10_line) (pc := 32) (-2) dX10_line_32 rfl ?_
      exact vv_iret (mi := mX10_line) (pc := 34) dX10_line_34 rfl (Nat.le_of_ble_eq_true rfl) (Nat.le_of_ble_eq_true rfl) h
    · replace h := h.2 c13
      refine vv_aload_n (mi := mX10_line) (pc := 24) 0 dX10_line_24 rfl rfl ?_
      refine vv_iload_n (mi := mX10_line) (pc := 25) 3 dX10_line_25 rfl rfl ?_
      obtain ⟨ht14, h⟩ := h
      refine vv_callV (mi := mX10_line) (pc := 26) (rest := []) (As := [.inl a2]) (ctX2_hasBehind (X := X) h) dX10_line_26 c7 ht14 (Nat.le_of_ble_eq_true rfl) rfl mb_X2_hasBehind rfl ml_X10_128 im_X2_hasBehind se_X2_hasBehind ⟨(Nat.le_of_ble_eq_true rfl), (Nat.le_of_ble_eq_true rfl)⟩ ⟨(Nat.le_of_ble_eq_true rfl), (Nat.le_of_ble_eq_true rfl)⟩ (Nat.le_of_ble_eq_true rfl) rfl (kI_ (F := fun st M' => VV X mX10_line rX10_line (pI_ post) 29 [(3, .inr (.inr r5)), (0, .inr (.inr (some this))), (1, .inl a1), (2, .inl a2)] st M' 0 0) (fun r15 M16 h => ?_))
      refine vv_if_ne (mi := mX10_line) (pc := 29) 35 dX10_line_29 rfl (fun c17 => ?_) (fun c17 => ?_)
      · replace h := h.1 c17
        refine vv_aload_n (mi := mX10_line) (pc := 35) 1 dX10_line_35 rfl rfl ?_
        obtain ⟨ht18, h⟩ := h
        refine vv_getR (mi := mX10_line) (pc := 36) 10 1 rfl ht18 fl_X10_19 (Nat.le_of_ble_eq_true rfl) dX10_line_36 ?_
        refine vv_aload_n (mi := mX10_line) (pc := 39) 0 dX10_line_39 rfl rfl ?_
        refine vv_iload_n (mi := mX10_line) (pc := 40) 3 dX10_line_40 rfl rfl ?_
        refine vv_i2l (mi := mX10_line) (pc := 41) dX10_line_41 ?_
        refine vv_aload_n (mi := mX10_line) (pc := 42) 1 dX10_line_42 rfl rfl ?_
        refine vv_getI (mi := mX10_line) (pc := 43) 10 4 rfl ht18 fl_X10_39 (Nat.le_of_ble_eq_true rfl) dX10_line_43 ?_
        obtain ⟨aq19, hs20, h⟩ := h
        obtain ⟨ht21, h⟩ := h
        refine vv_callV (mi := mX10_line) (pc := 46) (rest := []) (As := [.inr (.inr r5), .inr (.inl (Int32.toInt64 a2)), .inl (ddI M16 this 4)]) (ctX4_findOn (X := X) h) dX10_line_46 hs20 ht21 (Nat.le_of_ble_eq_true rfl) rfl mb_X4_findOn rfl ml_X10_131 im_X4_findOn se_X4_findOn ⟨(Nat.le_of_ble_eq_true rfl), (Nat.le_of_ble_eq_true rfl)⟩ ⟨(Nat.le_of_ble_eq_true rfl), (Nat.le_of_ble_eq_true rfl)⟩ (Nat.le_of_ble_eq_true rfl) rfl (kI_ (F := fun st M' => VV X mX10_line rX10_line (pI_ post) 49 [(3, .inr (.inr r5)), (0, .inr (.inr (some this))), (1, .inl a1), (2, .inl a2)] st M' 0 0) (fun r22 M23 h => ?_))
        refine vv_iconst (mi := mX10_line) (pc := 49) (-1) dX10_line_49 rfl ?_
        refine vv_icmp_eq (mi := mX10_line) (pc := 50) 55 dX10_line_50 rfl (fun c24 => ?_) (fun c24 => ?_)
        · replace h := h.1 c24
          refine vv_aload_n (mi := mX10_line) (pc := 55) 1 dX10_line_55 rfl rfl ?_
          obtain ⟨ht25, h⟩ := h
          refine vv_getR (mi := mX10_line) (pc := 56) 10 1 rfl ht25 fl_X10_19 (Nat.le_of_ble_eq_true rfl) dX10_line_56 ?_
          refine vv_aload_n (mi := mX10_line) (pc := 59) 0 dX10_line_59 rfl rfl ?_
          refine vv_iload_n (mi := mX10_line) (pc := 60) 3 dX10_line_60 rfl rfl ?_
          refine vv_aload_n (mi := mX10_line) (pc := 61) 1 dX10_line_61 rfl rfl ?_
          refine vv_getI (mi := mX10_line) (pc := 62) 10 4 rfl ht25 fl_X10_39 (Nat.le_of_ble_eq_true rfl) dX10_line_62 ?_
          obtain ⟨aq26, hs27, h⟩ := h
          obtain ⟨ht28, h⟩ := h
          refine vv_callV (mi := mX10_line) (pc := 65) (rest := []) (As := [.inr (.inr r5), .inl a2, .inl (ddI M23 this 4)]) (ctX4_append (X := X) h) dX10_line_65 hs27 ht28 (Nat.le_of_ble_eq_true rfl) rfl mb_X4_append rfl ml_X10_135 im_X4_append se_X4_append ⟨(Nat.le_of_ble_eq_true rfl), (Nat.le_of_ble_eq_true rfl)⟩ ⟨(Nat.le_of_ble_eq_true rfl), (Nat.le_of_ble_eq_true rfl)⟩ (Nat.le_of_ble_eq_true rfl) rfl (kI_ (F := fun st M' => VV X mX10_line rX10_line (pI_ post) 68 [(3, .inr (.inr r5)), (0, .inr (.inr (some this))), (1, .inl a1), (2, .inl a2)] st M' 1 6) (fun r29 M30 h => ?_))
          exact vv_iret (mi := mX10_line) (pc := 68) dX10_line_68 rfl (Nat.le_of_ble_eq_true rfl) (Nat.le_of_ble_eq_true rfl) h
        · replace h := h.2 c24
          refine vv_iconst (mi := mX10_line) (pc := 53) (-1) dX10_line_53 rfl ?_
          exact vv_iret (mi := mX10_line) (pc := 54) dX10_line_54 rfl (Nat.le_of_ble_eq_true rfl) (Nat.le_of_ble_eq_true rfl) h
      · replace h := h.2 c17
        refine vv_bipush (mi := mX10_line) (pc := 32) (-2) dX10_line_32 rfl ?_
        exact vv_iret (mi := mX10_line) (pc := 34) dX10_line_34 rfl (Nat.le_of_ble_eq_true rfl) (Nat.le_of_ble_eq_true rfl) h
set_option maxHeartbeats 4000000 in
set_option maxRecDepth 100000 in
theorem ctX10_drop {X : Cx_} {this : Nat} {a1 : Int32} {M : Mm} {post : Int32 → Mm → Prop} (h : PX10_drop this a1 M post) : CT X mX10_drop rX10_drop [.inr (.inr (some this)), .inl a1] M (pI_ post) := by
  unfold PX10_drop at h
  refine CT.of (by decide +kernel) (Nat.le_of_ble_eq_true rfl) ?_
  show VV X mX10_drop rX10_drop (pI_ post) 0 [(0, .inr (.inr (some this))), (1, .inl a1)] [] M 0 0
  refine vv_aload_n (mi := mX10_drop) (pc := 0) 0 dX10_drop_0 rfl rfl ?_
  obtain ⟨ht1, h⟩ := h
  refine vv_getR (mi := mX10_drop) (pc := 1) 10 1 rfl ht1 fl_X10_19 (Nat.le_of_ble_eq_true rfl) dX10_drop_1 ?_
  refine vv_iload_n (mi := mX10_drop) (pc := 4) 1 dX10_drop_4 rfl rfl ?_
  obtain ⟨aq2, hs3, h⟩ := h
  obtain ⟨ht4, h⟩ := h
  refine vv_callV (mi := mX10_drop) (pc := 5) (rest := []) (As := [.inl a1]) (ctX4_lineWith (X := X) h) dX10_drop_5 hs3 ht4 (Nat.le_of_ble_eq_true rfl) rfl mb_X4_lineWith rfl ml_X10_138 im_X4_lineWith se_X4_lineWith ⟨(Nat.le_of_ble_eq_true rfl), (Nat.le_of_ble_eq_true rfl)⟩ ⟨(Nat.le_of_ble_eq_true rfl), (Nat.le_of_ble_eq_true rfl)⟩ (Nat.le_of_ble_eq_true rfl) rfl (kR_ (F := fun st M' => VV X mX10_drop rX10_drop (pI_ post) 8 [(0, .inr (.inr (some this))), (1, .inl a1)] st M' 0 0) (fun r5 M6 h => ?_))
  refine vv_astore_n (mi := mX10_drop) (pc := 8) [(2, .inr (.inr r5)), (0, .inr (.inr (some this))), (1, .inl a1)] dX10_drop_8 rfl (Nat.le_of_ble_eq_true rfl) rfl ?_
  refine vv_aload_n (mi := mX10_drop) (pc := 9) 0 dX10_drop_9 rfl rfl ?_
  refine vv_ifnull (mi := mX10_drop) (pc := 10) 21 dX10_drop_10 rfl (fun c7 => ?_) (fun aq8 c7 => ?_)
  · replace h := h.1 c7
    refine vv_bipush (mi := mX10_drop) (pc := 21) (-2) dX10_drop_21 rfl ?_
    exact vv_iret (mi := mX10_drop) (pc := 23) dX10_drop_23 rfl (Nat.le_of_ble_eq_true rfl) (Nat.le_of_ble_eq_true rfl) h
  · replace h := h.2 aq8 c7
    refine vv_aload_n (mi := mX10_drop) (pc := 13) 0 dX10_drop_13 rfl rfl ?_
    obtain ⟨ht9, h⟩ := h
    refine vv_getI (mi := mX10_drop) (pc := 14) 3 4 c7 ht9 fl_X10_142 (Nat.le_of_ble_eq_true rfl) dX10_drop_14 ?_
    refine vv_iconst (mi := mX10_drop) (pc := 17) (-1) dX10_drop_17 rfl ?_
    refine vv_icmp_eq (mi := mX10_drop) (pc := 18) 24 dX10_drop_18 rfl (fun c10 => ?_) (fun c10 => ?_)
    · replace h := h.1 c10
      refine vv_aload_n (mi := mX10_drop) (pc := 24) 0 dX10_drop_24 rfl rfl ?_
      refine vv_aload_n (mi := mX10_drop) (pc := 25) 1 dX10_drop_25 rfl rfl ?_
      obtain ⟨ht11, h⟩ := h
      refine vv_getI (mi := mX10_drop) (pc := 26) 10 4 rfl ht11 fl_X10_39 (Nat.le_of_ble_eq_true rfl) dX10_drop_26 ?_
      obtain ⟨M12, eM12⟩ : ∃ z : Mm, z = suI M6 aq8 4 (ddI M6 this 4) := ⟨_, rfl⟩
      replace h := h _ eM12
      refine vv_putI (mi := mX10_drop) (pc := 29) 3 4 c7 ht9 fq_X10_142 (fun q => by cases q) rfl (Nat.le_of_ble_eq_true rfl) dX10_drop_29 eM12 ?_
      refine vv_iconst (mi := mX10_drop) (pc := 32) 1 dX10_drop_32 rfl ?_
      exact vv_iret (mi := mX10_drop) (pc := 33) dX10_drop_33 rfl (Nat.le_of_ble_eq_true rfl) (Nat.le_of_ble_eq_true rfl) h
    · replace h := h.2 c10
      refine vv_bipush (mi := mX10_drop) (pc := 21) (-2) dX10_drop_21 rfl ?_
      exact vv_iret (mi := mX10_drop) (pc := 23) dX10_drop_23 rfl (Nat.le_of_ble_eq_true rfl) (Nat.le_of_ble_eq_true rfl) h
set_option maxHeartbeats 4000000 in
set_option maxRecDepth 100000 in
theorem ctX10_port {X : Cx_} {this : Nat} {a1 : Int32} {a2 : Int32} {M : Mm} {post : Int32 → Mm → Prop} (h : PX10_port this a1 a2 M post) : CT X mX10_port rX10_port [.inr (.inr (some this)), .inl a1, .inl a2] M (pI_ post) := by
  unfold PX10_port at h
  refine CT.of (by decide +kernel) (Nat.le_of_ble_eq_true rfl) ?_
  show VV X mX10_port rX10_port (pI_ post) 0 [(0, .inr (.inr (some this))), (1, .inl a1), (2, .inl a2)] [] M 0 0
  refine vv_aload_n (mi := mX10_port) (pc := 0) 0 dX10_port_0 rfl rfl ?_
  obtain ⟨ht1, h⟩ := h
  refine vv_getR (mi := mX10_port) (pc := 1) 10 1 rfl ht1 fl_X10_19 (Nat.le_of_ble_eq_true rfl) dX10_port_1 ?_
  refine vv_iload_n (mi := mX10_port) (pc := 4) 1 dX10_port_4 rfl rfl ?_
  obtain ⟨aq2, hs3, h⟩ := h
  obtain ⟨ht4, h⟩ := h
  refine vv_callV (mi := mX10_port) (pc := 5) (rest := []) (As := [.inl a1]) (ctX4_lineWith (X := X) h) dX10_port_5 hs3 ht4 (Nat.le_of_ble_eq_true rfl) rfl mb_X4_lineWith rfl ml_X10_138 im_X4_lineWith se_X4_lineWith ⟨(Nat.le_of_ble_eq_true rfl), (Nat.le_of_ble_eq_true rfl)⟩ ⟨(Nat.le_of_ble_eq_true rfl), (Nat.le_of_ble_eq_true rfl)⟩ (Nat.le_of_ble_eq_true rfl) rfl (kR_ (F := fun st M' => VV X mX10_port rX10_port (pI_ post) 8 [(0, .inr (.inr (some this))), (1, .inl a1), (2, .inl a2)] st M' 0 0) (fun r5 M6 h => ?_))
  refine vv_astore_n (mi := mX10_port) (pc := 8) [(3, .inr (.inr r5)), (0, .inr (.inr (some this))), (1, .inl a1), (2, .inl a2)] dX10_port_8 rfl (Nat.le_of_ble_eq_true rfl) rfl ?_
  refine vv_aload_n (mi := mX10_port) (pc := 9) 0 dX10_port_9 rfl rfl ?_
  refine vv_ifnull (mi := mX10_port) (pc := 10) 31 dX10_port_10 rfl (fun c7 => ?_) (fun aq8 c7 => ?_)
  · replace h := h.1 c7
    refine vv_bipush (mi := mX10_port) (pc := 31) (-2) dX10_port_31 rfl ?_
    exact vv_iret (mi := mX10_port) (pc := 33) dX10_port_33 rfl (Nat.le_of_ble_eq_true rfl) (Nat.le_of_ble_eq_true rfl) h
  · replace h := h.2 aq8 c7
    refine vv_aload_n (mi := mX10_port) (pc := 13) 0 dX10_port_13 rfl rfl ?_
    obtain ⟨ht9, h⟩ := h
    refine vv_getI (mi := mX10_port) (pc := 14) 3 4 c7 ht9 fl_X10_142 (Nat.le_of_ble_eq_true rfl) dX10_port_14 ?_
    refine vv_iconst (mi := mX10_port) (pc := 17) (-1) dX10_port_17 rfl ?_
    refine vv_icmp_ne (mi := mX10_port) (pc := 18) 31 dX10_port_18 rfl (fun c10 => ?_) (fun c10 => ?_)
    · replace h := h.1 c10
      refine vv_bipush (mi := mX10_port) (pc := 31) (-2) dX10_port_31 rfl ?_
      exact vv_iret (mi := mX10_port) (pc := 33) dX10_port_33 rfl (Nat.le_of_ble_eq_true rfl) (Nat.le_of_ble_eq_true rfl) h
    · replace h := h.2 c10
      refine vv_iload_n (mi := mX10_port) (pc := 21) 3 dX10_port_21 rfl rfl ?_
      refine vv_iconst (mi := mX10_port) (pc := 22) 0 dX10_port_22 rfl ?_
      refine vv_bipush (mi := mX10_port) (pc := 23) 99 dX10_port_23 rfl ?_
      refine vv_callS (mi := mX10_port) (pc := 25) (rest := []) (As := [.inl a2, .inl 0, .inl 99]) (ctX10_isWithin (X := X) h) dX10_port_25 mb_X10_isWithin rfl ml_X10_64 sc_X10_isWithin ⟨(Nat.le_of_ble_eq_true rfl), (Nat.le_of_ble_eq_true rfl)⟩ ⟨(Nat.le_of_ble_eq_true rfl), (Nat.le_of_ble_eq_true rfl)⟩ (Nat.le_of_ble_eq_true rfl) rfl (kI_ (F := fun st M' => VV X mX10_port rX10_port (pI_ post) 28 [(3, .inr (.inr r5)), (0, .inr (.inr (some this))), (1, .inl a1), (2, .inl a2)] st M' 0 0) (fun r11 M12 h => ?_))
      refine vv_if_ne (mi := mX10_port) (pc := 28) 34 dX10_port_28 rfl (fun c13 => ?_) (fun c13 => ?_)
      · replace h := h.1 c13
        refine vv_aload_n (mi := mX10_port) (pc := 34) 1 dX10_port_34 rfl rfl ?_
        obtain ⟨ht14, h⟩ := h
        refine vv_getR (mi := mX10_port) (pc := 35) 10 1 rfl ht14 fl_X10_19 (Nat.le_of_ble_eq_true rfl) dX10_port_35 ?_
        refine vv_aload_n (mi := mX10_port) (pc := 38) 0 dX10_port_38 rfl rfl ?_
        refine vv_iload_n (mi := mX10_port) (pc := 39) 3 dX10_port_39 rfl rfl ?_
        refine vv_aload_n (mi := mX10_port) (pc := 40) 1 dX10_port_40 rfl rfl ?_
        refine vv_getI (mi := mX10_port) (pc := 41) 10 4 rfl ht14 fl_X10_39 (Nat.le_of_ble_eq_true rfl) dX10_port_41 ?_
        obtain ⟨aq15, hs16, h⟩ := h
        obtain ⟨ht17, h⟩ := h
        refine vv_callV (mi := mX10_port) (pc := 44) (rest := []) (As := [.inr (.inr r5), .inl a2, .inl (ddI M12 this 4)]) (ctX4_portTo (X := X) h) dX10_port_44 hs16 ht17 (Nat.le_of_ble_eq_true rfl) rfl mb_X4_portTo rfl ml_X10_145 im_X4_portTo se_X4_portTo ⟨(Nat.le_of_ble_eq_true rfl), (Nat.le_of_ble_eq_true rfl)⟩ ⟨(Nat.le_of_ble_eq_true rfl), (Nat.le_of_ble_eq_true rfl)⟩ (Nat.le_of_ble_eq_true rfl) rfl (kI_ (F := fun st M' => VV X mX10_port rX10_port (pI_ post) 47 [(3, .inr (.inr r5)), (0, .inr (.inr (some this))), (1, .inl a1), (2, .inl a2)] st M' 1 3) (fun r18 M19 h => ?_))
        exact vv_iret (mi := mX10_port) (pc := 47) dX10_port_47 rfl (Nat.le_of_ble_eq_true rfl) (Nat.le_of_ble_eq_true rfl) h
      · replace h := h.2 c13
        refine vv_bipush (mi := mX10_port) (pc := 31) (-2) dX10_port_31 rfl ?_
        exact vv_iret (mi := mX10_port) (pc := 33) dX10_port_33 rfl (Nat.le_of_ble_eq_true rfl) (Nat.le_of_ble_eq_true rfl) h
set_option maxHeartbeats 4000000 in
set_option maxRecDepth 100000 in
theorem ctX10_numberOf {X : Cx_} {this : Nat} {a1 : Int32} {a2 : Int32} {M : Mm} {post : Int64 → Mm → Prop} (h : PX10_numberOf this a1 a2 M post) : CT X mX10_numberOf rX10_numberOf [.inr (.inr (some this)), .inl a1, .inl a2] M (pL_ post) := by
  unfold PX10_numberOf at h
  refine CT.of (by decide +kernel) (Nat.le_of_ble_eq_true rfl) ?_
  show VV X mX10_numberOf rX10_numberOf (pL_ post) 0 [(0, .inr (.inr (some this))), (1, .inl a1), (2, .inl a2)] [] M 0 0
  refine vv_aload_n (mi := mX10_numberOf) (pc := 0) 0 dX10_numberOf_0 rfl rfl ?_
  obtain ⟨ht1, h⟩ := h
  refine vv_getR (mi := mX10_numberOf) (pc := 1) 10 1 rfl ht1 fl_X10_19 (Nat.le_of_ble_eq_true rfl) dX10_numberOf_1 ?_
  refine vv_iload_n (mi := mX10_numberOf) (pc := 4) 1 dX10_numberOf_4 rfl rfl ?_
  obtain ⟨aq2, hs3, h⟩ := h
  obtain ⟨ht4, h⟩ := h
  refine vv_callV (mi := mX10_numberOf) (pc := 5) (rest := []) (As := [.inl a1]) (ctX4_lineWith (X := X) h) dX10_numberOf_5 hs3 ht4 (Nat.le_of_ble_eq_true rfl) rfl mb_X4_lineWith rfl ml_X10_138 im_X4_lineWith se_X4_lineWith ⟨(Nat.le_of_ble_eq_true rfl), (Nat.le_of_ble_eq_true rfl)⟩ ⟨(Nat.le_of_ble_eq_true rfl), (Nat.le_of_ble_eq_true rfl)⟩ (Nat.le_of_ble_eq_true rfl) rfl (kR_ (F := fun st M' => VV X mX10_numberOf rX10_numberOf (pL_ post) 8 [(0, .inr (.inr (some this))), (1, .inl a1), (2, .inl a2)] st M' 0 0) (fun r5 M6 h => ?_))
  refine vv_astore_n (mi := mX10_numberOf) (pc := 8) [(3, .inr (.inr r5)), (0, .inr (.inr (some this))), (1, .inl a1), (2, .inl a2)] dX10_numberOf_8 rfl (Nat.le_of_ble_eq_true rfl) rfl ?_
  refine vv_aload_n (mi := mX10_numberOf) (pc := 9) 0 dX10_numberOf_9 rfl rfl ?_
  refine vv_ifnull (mi := mX10_numberOf) (pc := 10) 20 dX10_numberOf_10 rfl (fun c7 => ?_) (fun aq8 c7 => ?_)
  · replace h := h.1 c7
    refine vv_ldc2 (mi := mX10_numberOf) (pc := 20) (-1) dX10_numberOf_20 kl_X10_149 ?_
    exact vv_lret (mi := mX10_numberOf) (pc := 23) dX10_numberOf_23 rfl (Nat.le_of_ble_eq_true rfl) (Nat.le_of_ble_eq_true rfl) h
  · replace h := h.2 aq8 c7
    refine vv_iload_n (mi := mX10_numberOf) (pc := 13) 3 dX10_numberOf_13 rfl rfl ?_
    refine vv_callS (mi := mX10_numberOf) (pc := 14) (rest := []) (As := [.inl a2]) (ctX10_isDay (X := X) h) dX10_numberOf_14 mb_X10_isDay rfl ml_X10_115 sc_X10_isDay ⟨(Nat.le_of_ble_eq_true rfl), (Nat.le_of_ble_eq_true rfl)⟩ ⟨(Nat.le_of_ble_eq_true rfl), (Nat.le_of_ble_eq_true rfl)⟩ (Nat.le_of_ble_eq_true rfl) rfl (kI_ (F := fun st M' => VV X mX10_numberOf rX10_numberOf (pL_ post) 17 [(3, .inr (.inr r5)), (0, .inr (.inr (some this))), (1, .inl a1), (2, .inl a2)] st M' 0 0) (fun r9 M10 h => ?_))
    refine vv_if_ne (mi := mX10_numberOf) (pc := 17) 24 dX10_numberOf_17 rfl (fun c11 => ?_) (fun c11 => ?_)
    · replace h := h.1 c11
      refine vv_aload_n (mi := mX10_numberOf) (pc := 24) 0 dX10_numberOf_24 rfl rfl ?_
      refine vv_iload_n (mi := mX10_numberOf) (pc := 25) 3 dX10_numberOf_25 rfl rfl ?_
      obtain ⟨ht12, h⟩ := h
      refine vv_callV (mi := mX10_numberOf) (pc := 26) (rest := []) (As := [.inl a2]) (ctX3_blockOn (X := X) h) dX10_numberOf_26 c7 ht12 (Nat.le_of_ble_eq_true rfl) rfl mb_X3_blockOn rfl ml_X10_151 im_X3_blockOn se_X3_blockOn ⟨(Nat.le_of_ble_eq_true rfl), (Nat.le_of_ble_eq_true rfl)⟩ ⟨(Nat.le_of_ble_eq_true rfl), (Nat.le_of_ble_eq_true rfl)⟩ (Nat.le_of_ble_eq_true rfl) rfl (kR_ (F := fun st M' => VV X mX10_numberOf rX10_numberOf (pL_ post) 29 [(3, .inr (.inr r5)), (0, .inr (.inr (some this))), (1, .inl a1), (2, .inl a2)] st M' 0 0) (fun r13 M14 h => ?_))
      refine vv_astore (mi := mX10_numberOf) (pc := 29) [(4, .inr (.inr r13)), (3, .inr (.inr r5)), (0, .inr (.inr (some this))), (1, .inl a1), (2, .inl a2)] dX10_numberOf_29 (Nat.le_of_ble_eq_true rfl) rfl ?_
      refine vv_aload (mi := mX10_numberOf) (pc := 31) 0 dX10_numberOf_31 rfl ?_
      refine vv_ifnonnull (mi := mX10_numberOf) (pc := 33) 42 dX10_numberOf_33 rfl (fun aq16 c15 => ?_) (fun c15 => ?_)
      · replace h := h.2 aq16 c15
        refine vv_aload (mi := mX10_numberOf) (pc := 42) 0 dX10_numberOf_42 rfl ?_
        refine vv_aload_n (mi := mX10_numberOf) (pc := 44) 1 dX10_numberOf_44 rfl rfl ?_
        obtain ⟨ht17, h⟩ := h
        refine vv_getI (mi := mX10_numberOf) (pc := 45) 3 1 c7 ht17 fl_X10_154 (Nat.le_of_ble_eq_true rfl) dX10_numberOf_45 ?_
        obtain ⟨ht18, h⟩ := h
        refine vv_callV (mi := mX10_numberOf) (pc := 48) (rest := []) (As := [.inl (ddI M14 aq8 1)]) (ctX2_numberWith (X := X) h) dX10_numberOf_48 c15 ht18 (Nat.le_of_ble_eq_true rfl) rfl mb_X2_numberWith rfl ml_X10_157 im_X2_numberWith se_X2_numberWith ⟨(Nat.le_of_ble_eq_true rfl), (Nat.le_of_ble_eq_true rfl)⟩ ⟨(Nat.le_of_ble_eq_true rfl), (Nat.le_of_ble_eq_true rfl)⟩ (Nat.le_of_ble_eq_true rfl) rfl (kL_ (F := fun st M' => VV X mX10_numberOf rX10_numberOf (pL_ post) 51 [(4, .inr (.inr r13)), (3, .inr (.inr r5)), (0, .inr (.inr (some this))), (1, .inl a1), (2, .inl a2)] st M' 0 0) (fun r19 M20 h => ?_))
        exact vv_lret (mi := mX10_numberOf) (pc := 51) dX10_numberOf_51 rfl (Nat.le_of_ble_eq_true rfl) (Nat.le_of_ble_eq_true rfl) h
      · replace h := h.1 c15
        refine vv_ldc2 (mi := mX10_numberOf) (pc := 36) (-1) dX10_numberOf_36 kl_X10_149 ?_
        refine vv_goto (mi := mX10_numberOf) (pc := 39) 51 dX10_numberOf_39 rfl ?_
        exact vv_lret (mi := mX10_numberOf) (pc := 51) dX10_numberOf_51 rfl (Nat.le_of_ble_eq_true rfl) (Nat.le_of_ble_eq_true rfl) h
    · replace h := h.2 c11
      refine vv_ldc2 (mi := mX10_numberOf) (pc := 20) (-1) dX10_numberOf_20 kl_X10_149 ?_
      exact vv_lret (mi := mX10_numberOf) (pc := 23) dX10_numberOf_23 rfl (Nat.le_of_ble_eq_true rfl) (Nat.le_of_ble_eq_true rfl) h
set_option maxHeartbeats 4000000 in
set_option maxRecDepth 100000 in
theorem ctX10_lineAt {X : Cx_} {this : Nat} {a1 : Int32} {a2 : Int32} {a3 : Int32} {M : Mm} {post : Int32 → Mm → Prop} (h : PX10_lineAt this a1 a2 a3 M post) : CT X mX10_lineAt rX10_lineAt [.inr (.inr (some this)), .inl a1, .inl a2, .inl a3] M (pI_ post) := by
  unfold PX10_lineAt at h
  refine CT.of (by decide +kernel) (Nat.le_of_ble_eq_true rfl) ?_
  show VV X mX10_lineAt rX10_lineAt (pI_ post) 0 [(0, .inr (.inr (some this))), (1, .inl a1), (2, .inl a2), (3, .inl a3)] [] M 0 0
  refine vv_aload_n (mi := mX10_lineAt) (pc := 0) 0 dX10_lineAt_0 rfl rfl ?_
  obtain ⟨ht1, h⟩ := h
  refine vv_getR (mi := mX10_lineAt) (pc := 1) 10 1 rfl ht1 fl_X10_19 (Nat.le_of_ble_eq_true rfl) dX10_lineAt_1 ?_
  refine vv_iload_n (mi := mX10_lineAt) (pc := 4) 1 dX10_lineAt_4 rfl rfl ?_
  obtain ⟨aq2, hs3, h⟩ := h
  obtain ⟨ht4, h⟩ := h
  refine vv_callV (mi := mX10_lineAt) (pc := 5) (rest := []) (As := [.inl a1]) (ctX4_lineWith (X := X) h) dX10_lineAt_5 hs3 ht4 (Nat.le_of_ble_eq_true rfl) rfl mb_X4_lineWith rfl ml_X10_138 im_X4_lineWith se_X4_lineWith ⟨(Nat.le_of_ble_eq_true rfl), (Nat.le_of_ble_eq_true rfl)⟩ ⟨(Nat.le_of_ble_eq_true rfl), (Nat.le_of_ble_eq_true rfl)⟩ (Nat.le_of_ble_eq_true rfl) rfl (kR_ (F := fun st M' => VV X mX10_lineAt rX10_lineAt (pI_ post) 8 [(0, .inr (.inr (some this))), (1, .inl a1), (2, .inl a2), (3, .inl a3)] st M' 0 0) (fun r5 M6 h => ?_))
  refine vv_astore (mi := mX10_lineAt) (pc := 8) [(4, .inr (.inr r5)), (0, .inr (.inr (some this))), (1, .inl a1), (2, .inl a2), (3, .inl a3)] dX10_lineAt_8 (Nat.le_of_ble_eq_true rfl) rfl ?_
  refine vv_aload (mi := mX10_lineAt) (pc := 10) 0 dX10_lineAt_10 rfl ?_
  refine vv_ifnull (mi := mX10_lineAt) (pc := 12) 22 dX10_lineAt_12 rfl (fun c7 => ?_) (fun aq8 c7 => ?_)
  · replace h := h.1 c7
    refine vv_iconst (mi := mX10_lineAt) (pc := 22) (-1) dX10_lineAt_22 rfl ?_
    exact vv_iret (mi := mX10_lineAt) (pc := 23) dX10_lineAt_23 rfl (Nat.le_of_ble_eq_true rfl) (Nat.le_of_ble_eq_true rfl) h
  · replace h := h.2 aq8 c7
    refine vv_iload_n (mi := mX10_lineAt) (pc := 15) 3 dX10_lineAt_15 rfl rfl ?_
    refine vv_callS (mi := mX10_lineAt) (pc := 16) (rest := []) (As := [.inl a2]) (ctX10_isDay (X := X) h) dX10_lineAt_16 mb_X10_isDay rfl ml_X10_115 sc_X10_isDay ⟨(Nat.le_of_ble_eq_true rfl), (Nat.le_of_ble_eq_true rfl)⟩ ⟨(Nat.le_of_ble_eq_true rfl), (Nat.le_of_ble_eq_true rfl)⟩ (Nat.le_of_ble_eq_true rfl) rfl (kI_ (F := fun st M' => VV X mX10_lineAt rX10_lineAt (pI_ post) 19 [(4, .inr (.inr r5)), (0, .inr (.inr (some this))), (1, .inl a1), (2, .inl a2), (3, .inl a3)] st M' 0 0) (fun r9 M10 h => ?_))
    refine vv_if_ne (mi := mX10_lineAt) (pc := 19) 24 dX10_lineAt_19 rfl (fun c11 => ?_) (fun c11 => ?_)
    · replace h := h.1 c11
      refine vv_aload (mi := mX10_lineAt) (pc := 24) 0 dX10_lineAt_24 rfl ?_
      refine vv_iload_n (mi := mX10_lineAt) (pc := 26) 3 dX10_lineAt_26 rfl rfl ?_
      obtain ⟨ht12, h⟩ := h
      refine vv_callV (mi := mX10_lineAt) (pc := 27) (rest := []) (As := [.inl a2]) (ctX3_blockOn (X := X) h) dX10_lineAt_27 c7 ht12 (Nat.le_of_ble_eq_true rfl) rfl mb_X3_blockOn rfl ml_X10_151 im_X3_blockOn se_X3_blockOn ⟨(Nat.le_of_ble_eq_true rfl), (Nat.le_of_ble_eq_true rfl)⟩ ⟨(Nat.le_of_ble_eq_true rfl), (Nat.le_of_ble_eq_true rfl)⟩ (Nat.le_of_ble_eq_true rfl) rfl (kR_ (F := fun st M' => VV X mX10_lineAt rX10_lineAt (pI_ post) 30 [(4, .inr (.inr r5)), (0, .inr (.inr (some this))), (1, .inl a1), (2, .inl a2), (3, .inl a3)] st M' 0 0) (fun r13 M14 h => ?_))
      refine vv_astore (mi := mX10_lineAt) (pc := 30) [(5, .inr (.inr r13)), (4, .inr (.inr r5)), (0, .inr (.inr (some this))), (1, .inl a1), (2, .inl a2), (3, .inl a3)] dX10_lineAt_30 (Nat.le_of_ble_eq_true rfl) rfl ?_
      refine vv_aload (mi := mX10_lineAt) (pc := 32) 0 dX10_lineAt_32 rfl ?_
      refine vv_ifnonnull (mi := mX10_lineAt) (pc := 34) 39 dX10_lineAt_34 rfl (fun aq16 c15 => ?_) (fun c15 => ?_)
      · replace h := h.2 aq16 c15
        refine vv_iload_n (mi := mX10_lineAt) (pc := 39) 5 dX10_lineAt_39 rfl rfl ?_
        refine vv_tsw (mi := mX10_lineAt) (pc := 40) 87 [68, 74, 81] dX10_lineAt_40 rfl rfl rfl (fun j t c17 c17e => ?_) (fun c17 => ?_)
        · match j, c17, c17e with
          | 0, c17, c17e =>
            cases c17
            replace h := h.1 c17e
            refine vv_aload (mi := mX10_lineAt) (pc := 68) 0 dX10_lineAt_68 rfl ?_
            obtain ⟨ht18, h⟩ := h
            refine vv_getI (mi := mX10_lineAt) (pc := 70) 2 9 c15 ht18 fl_X10_161 (Nat.le_of_ble_eq_true rfl) dX10_lineAt_70 ?_
            exact vv_iret (mi := mX10_lineAt) (pc := 73) dX10_lineAt_73 rfl (Nat.le_of_ble_eq_true rfl) (Nat.le_of_ble_eq_true rfl) h
          | 1, c17, c17e =>
            cases c17
            replace h := h.2.1 c17e
            refine vv_aload (mi := mX10_lineAt) (pc := 74) 1 dX10_lineAt_74 rfl ?_
            refine vv_iload_n (mi := mX10_lineAt) (pc := 76) 4 dX10_lineAt_76 rfl rfl ?_
            obtain ⟨ht19, h⟩ := h
            refine vv_callV (mi := mX10_lineAt) (pc := 77) (rest := []) (As := [.inl a2]) (ctX3_carrierOn (X := X) h) dX10_lineAt_77 c7 ht19 (Nat.le_of_ble_eq_true rfl) rfl mb_X3_carrierOn rfl ml_X10_164 im_X3_carrierOn se_X3_carrierOn ⟨(Nat.le_of_ble_eq_true rfl), (Nat.le_of_ble_eq_true rfl)⟩ ⟨(Nat.le_of_ble_eq_true rfl), (Nat.le_of_ble_eq_true rfl)⟩ (Nat.le_of_ble_eq_true rfl) rfl (kI_ (F := fun st M' => VV X mX10_lineAt rX10_lineAt (pI_ post) 80 [(5, .inr (.inr r13)), (4, .inr (.inr r5)), (0, .inr (.inr (some this))), (1, .inl a1), (2, .inl a2), (3, .inl a3)] st M' 0 0) (fun r20 M21 h => ?_))
            exact vv_iret (mi := mX10_lineAt) (pc := 80) dX10_lineAt_80 rfl (Nat.le_of_ble_eq_true rfl) (Nat.le_of_ble_eq_true rfl) h
          | 2, c17, c17e =>
            cases c17
            replace h := h.2.2.1 c17e
            refine vv_aload (mi := mX10_lineAt) (pc := 81) 0 dX10_lineAt_81 rfl ?_
            obtain ⟨ht22, h⟩ := h
            refine vv_getI (mi := mX10_lineAt) (pc := 83) 2 1 c15 ht22 fl_X10_108 (Nat.le_of_ble_eq_true rfl) dX10_lineAt_83 ?_
            exact vv_iret (mi := mX10_lineAt) (pc := 86) dX10_lineAt_86 rfl (Nat.le_of_ble_eq_true rfl) (Nat.le_of_ble_eq_true rfl) h
          | (j + 3), c17, _ => exact absurd c17 (by simp)
        · replace h := h.2.2.2 c17
          refine vv_iconst (mi := mX10_lineAt) (pc := 87) (-1) dX10_lineAt_87 rfl ?_
          exact vv_iret (mi := mX10_lineAt) (pc := 88) dX10_lineAt_88 rfl (Nat.le_of_ble_eq_true rfl) (Nat.le_of_ble_eq_true rfl) h
      · replace h := h.1 c15
        refine vv_iconst (mi := mX10_lineAt) (pc := 37) (-1) dX10_lineAt_37 rfl ?_
        exact vv_iret (mi := mX10_lineAt) (pc := 38) dX10_lineAt_38 rfl (Nat.le_of_ble_eq_true rfl) (Nat.le_of_ble_eq_true rfl) h
    · replace h := h.2 c11
      refine vv_iconst (mi := mX10_lineAt) (pc := 22) (-1) dX10_lineAt_22 rfl ?_
      exact vv_iret (mi := mX10_lineAt) (pc := 23) dX10_lineAt_23 rfl (Nat.le_of_ble_eq_true rfl) (Nat.le_of_ble_eq_true rfl) h
set_option maxHeartbeats 4000000 in
set_option maxRecDepth 100000 in
theorem ctX10_callWith {X : Cx_} {this : Nat} {a1 : Int32} {M : Mm} {post : Option Nat → Mm → Prop} (h : PX10_callWith this a1 M post) : CT X mX10_callWith rX10_callWith [.inr (.inr (some this)), .inl a1] M (pR_ post) := by
  unfold PX10_callWith at h
  refine CT.of (by decide +kernel) (Nat.le_of_ble_eq_true rfl) ?_
  show VV X mX10_callWith rX10_callWith (pR_ post) 0 [(0, .inr (.inr (some this))), (1, .inl a1)] [] M 0 0
  refine vv_iload_n (mi := mX10_callWith) (pc := 0) 1 dX10_callWith_0 rfl rfl ?_
  refine vv_if_lt (mi := mX10_callWith) (pc := 1) 22 dX10_callWith_1 rfl (fun c1 => ?_) (fun c1 => ?_)
  · replace h := h.1 c1
    refine vv_null (mi := mX10_callWith) (pc := 22) dX10_callWith_22 ?_
    exact vv_aret (mi := mX10_callWith) (pc := 23) dX10_callWith_23 rfl (Nat.le_of_ble_eq_true rfl) (Nat.le_of_ble_eq_true rfl) h
  · replace h := h.2 c1
    refine vv_iload_n (mi := mX10_callWith) (pc := 4) 1 dX10_callWith_4 rfl rfl ?_
    refine vv_aload_n (mi := mX10_callWith) (pc := 5) 0 dX10_callWith_5 rfl rfl ?_
    obtain ⟨ht2, h⟩ := h
    refine vv_getR (mi := mX10_callWith) (pc := 6) 10 2 rfl ht2 fl_X10_25 (Nat.le_of_ble_eq_true rfl) dX10_callWith_6 ?_
    obtain ⟨aq3, hs4, h⟩ := h
    obtain ⟨ht5, h⟩ := h
    refine vv_alen (mi := mX10_callWith) (pc := 9) (t := 23) (Nat.le_of_ble_eq_true rfl) (Nat.le_of_ble_eq_true rfl) rfl hs4 ht5 dX10_callWith_9 ?_
    refine vv_icmp_ge (mi := mX10_callWith) (pc := 10) 22 dX10_callWith_10 rfl (fun c6 => ?_) (fun c6 => ?_)
    · replace h := h.1 c6
      refine vv_null (mi := mX10_callWith) (pc := 22) dX10_callWith_22 ?_
      exact vv_aret (mi := mX10_callWith) (pc := 23) dX10_callWith_23 rfl (Nat.le_of_ble_eq_true rfl) (Nat.le_of_ble_eq_true rfl) h
    · replace h := h.2 c6
      refine vv_aload_n (mi := mX10_callWith) (pc := 13) 0 dX10_callWith_13 rfl rfl ?_
      refine vv_getR (mi := mX10_callWith) (pc := 14) 10 2 rfl ht2 fl_X10_25 (Nat.le_of_ble_eq_true rfl) dX10_callWith_14 ?_
      refine vv_iload_n (mi := mX10_callWith) (pc := 17) 1 dX10_callWith_17 rfl rfl ?_
      obtain ⟨hi7, h⟩ := h
      refine vv_aald (mi := mX10_callWith) (pc := 18) (t := 23) (Nat.le_of_ble_eq_true rfl) rfl hs4 ht5 hi7 dX10_callWith_18 ?_
      refine vv_goto (mi := mX10_callWith) (pc := 19) 23 dX10_callWith_19 rfl ?_
      exact vv_aret (mi := mX10_callWith) (pc := 23) dX10_callWith_23 rfl (Nat.le_of_ble_eq_true rfl) (Nat.le_of_ble_eq_true rfl) h
set_option maxHeartbeats 4000000 in
set_option maxRecDepth 100000 in
theorem ctX10_call {X : Cx_} {this : Nat} {a1 : Int32} {M : Mm} {post : Int32 → Mm → Prop} (h : PX10_call this a1 M post) : CT X mX10_call rX10_call [.inr (.inr (some this)), .inl a1] M (pI_ post) := by
  unfold PX10_call at h
  refine CT.of (by decide +kernel) (Nat.le_of_ble_eq_true rfl) ?_
  show VV X mX10_call rX10_call (pI_ post) 0 [(0, .inr (.inr (some this))), (1, .inl a1)] [] M 0 0
  refine vv_aload_n (mi := mX10_call) (pc := 0) 0 dX10_call_0 rfl rfl ?_
  refine vv_iload_n (mi := mX10_call) (pc := 1) 1 dX10_call_1 rfl rfl ?_
  obtain ⟨ht1, h⟩ := h
  refine vv_callV (mi := mX10_call) (pc := 2) (rest := []) (As := [.inl a1]) (ctX10_callWith (X := X) h) dX10_call_2 rfl ht1 (Nat.le_of_ble_eq_true rfl) rfl mb_X10_callWith rfl ml_X10_167 im_X10_callWith se_X10_callWith ⟨(Nat.le_of_ble_eq_true rfl), (Nat.le_of_ble_eq_true rfl)⟩ ⟨(Nat.le_of_ble_eq_true rfl), (Nat.le_of_ble_eq_true rfl)⟩ (Nat.le_of_ble_eq_true rfl) rfl (kR_ (F := fun st M' => VV X mX10_call rX10_call (pI_ post) 5 [(0, .inr (.inr (some this))), (1, .inl a1)] st M' 0 0) (fun r2 M3 h => ?_))
  refine vv_astore_n (mi := mX10_call) (pc := 5) [(2, .inr (.inr r2)), (0, .inr (.inr (some this))), (1, .inl a1)] dX10_call_5 rfl (Nat.le_of_ble_eq_true rfl) rfl ?_
  refine vv_aload_n (mi := mX10_call) (pc := 6) 0 dX10_call_6 rfl rfl ?_
  refine vv_ifnonnull (mi := mX10_call) (pc := 7) 13 dX10_call_7 rfl (fun aq5 c4 => ?_) (fun c4 => ?_)
  · replace h := h.2 aq5 c4
    refine vv_aload_n (mi := mX10_call) (pc := 13) 0 dX10_call_13 rfl rfl ?_
    refine vv_aload_n (mi := mX10_call) (pc := 14) 1 dX10_call_14 rfl rfl ?_
    obtain ⟨ht6, h⟩ := h
    refine vv_getI (mi := mX10_call) (pc := 15) 10 4 rfl ht6 fl_X10_39 (Nat.le_of_ble_eq_true rfl) dX10_call_15 ?_
    obtain ⟨ht7, h⟩ := h
    refine vv_callV (mi := mX10_call) (pc := 18) (rest := []) (As := [.inl (ddI M3 this 4)]) (ctX0_begin (X := X) h) dX10_call_18 c4 ht7 (Nat.le_of_ble_eq_true rfl) rfl mb_X0_begin rfl ml_X10_171 im_X0_begin se_X0_begin ⟨(Nat.le_of_ble_eq_true rfl), (Nat.le_of_ble_eq_true rfl)⟩ ⟨(Nat.le_of_ble_eq_true rfl), (Nat.le_of_ble_eq_true rfl)⟩ (Nat.le_of_ble_eq_true rfl) rfl (kV_ (F := fun st M' => VV X mX10_call rX10_call (pI_ post) 21 [(2, .inr (.inr r2)), (0, .inr (.inr (some this))), (1, .inl a1)] st M' 0 0) (fun M9 h => ?_))
    refine vv_aload_n (mi := mX10_call) (pc := 21) 1 dX10_call_21 rfl rfl ?_
    obtain ⟨ht10, h⟩ := h
    refine vv_getI (mi := mX10_call) (pc := 22) 10 4 rfl ht10 fl_X10_39 (Nat.le_of_ble_eq_true rfl) dX10_call_22 ?_
    exact vv_iret (mi := mX10_call) (pc := 25) dX10_call_25 rfl (Nat.le_of_ble_eq_true rfl) (Nat.le_of_ble_eq_true rfl) h
  · replace h := h.1 c4
    refine vv_bipush (mi := mX10_call) (pc := 10) (-2) dX10_call_10 rfl ?_
    exact vv_iret (mi := mX10_call) (pc := 12) dX10_call_12 rfl (Nat.le_of_ble_eq_true rfl) (Nat.le_of_ble_eq_true rfl) h
set_option maxHeartbeats 4000000 in
set_option maxRecDepth 100000 in
theorem ctX10_figure {X : Cx_} {this : Nat} {a1 : Int32} {a2 : Int32} {M : Mm} {post : Int32 → Mm → Prop} (h : PX10_figure this a1 a2 M post) : CT X mX10_figure rX10_figure [.inr (.inr (some this)), .inl a1, .inl a2] M (pI_ post) := by
  unfold PX10_figure at h
  refine CT.of (by decide +kernel) (Nat.le_of_ble_eq_true rfl) ?_
  show VV X mX10_figure rX10_figure (pI_ post) 0 [(0, .inr (.inr (some this))), (1, .inl a1), (2, .inl a2)] [] M 0 0
  refine vv_aload_n (mi := mX10_figure) (pc := 0) 0 dX10_figure_0 rfl rfl ?_
  refine vv_iload_n (mi := mX10_figure) (pc := 1) 1 dX10_figure_1 rfl rfl ?_
  obtain ⟨ht1, h⟩ := h
  refine vv_callV (mi := mX10_figure) (pc := 2) (rest := []) (As := [.inl a1]) (ctX10_callWith (X := X) h) dX10_figure_2 rfl ht1 (Nat.le_of_ble_eq_true rfl) rfl mb_X10_callWith rfl ml_X10_167 im_X10_callWith se_X10_callWith ⟨(Nat.le_of_ble_eq_true rfl), (Nat.le_of_ble_eq_true rfl)⟩ ⟨(Nat.le_of_ble_eq_true rfl), (Nat.le_of_ble_eq_true rfl)⟩ (Nat.le_of_ble_eq_true rfl) rfl (kR_ (F := fun st M' => VV X mX10_figure rX10_figure (pI_ post) 5 [(0, .inr (.inr (some this))), (1, .inl a1), (2, .inl a2)] st M' 0 0) (fun r2 M3 h => ?_))
  refine vv_astore_n (mi := mX10_figure) (pc := 5) [(3, .inr (.inr r2)), (0, .inr (.inr (some this))), (1, .inl a1), (2, .inl a2)] dX10_figure_5 rfl (Nat.le_of_ble_eq_true rfl) rfl ?_
  refine vv_aload_n (mi := mX10_figure) (pc := 6) 0 dX10_figure_6 rfl rfl ?_
  refine vv_ifnull (mi := mX10_figure) (pc := 7) 20 dX10_figure_7 rfl (fun c4 => ?_) (fun aq5 c4 => ?_)
  · replace h := h.1 c4
    refine vv_bipush (mi := mX10_figure) (pc := 20) (-2) dX10_figure_20 rfl ?_
    exact vv_iret (mi := mX10_figure) (pc := 22) dX10_figure_22 rfl (Nat.le_of_ble_eq_true rfl) (Nat.le_of_ble_eq_true rfl) h
  · replace h := h.2 aq5 c4
    refine vv_iload_n (mi := mX10_figure) (pc := 10) 3 dX10_figure_10 rfl rfl ?_
    refine vv_iconst (mi := mX10_figure) (pc := 11) 0 dX10_figure_11 rfl ?_
    refine vv_bipush (mi := mX10_figure) (pc := 12) 9 dX10_figure_12 rfl ?_
    refine vv_callS (mi := mX10_figure) (pc := 14) (rest := []) (As := [.inl a2, .inl 0, .inl 9]) (ctX10_isWithin (X := X) h) dX10_figure_14 mb_X10_isWithin rfl ml_X10_64 sc_X10_isWithin ⟨(Nat.le_of_ble_eq_true rfl), (Nat.le_of_ble_eq_true rfl)⟩ ⟨(Nat.le_of_ble_eq_true rfl), (Nat.le_of_ble_eq_true rfl)⟩ (Nat.le_of_ble_eq_true rfl) rfl (kI_ (F := fun st M' => VV X mX10_figure rX10_figure (pI_ post) 17 [(3, .inr (.inr r2)), (0, .inr (.inr (some this))), (1, .inl a1), (2, .inl a2)] st M' 0 0) (fun r6 M7 h => ?_))
    refine vv_if_ne (mi := mX10_figure) (pc := 17) 23 dX10_figure_17 rfl (fun c8 => ?_) (fun c8 => ?_)
    · replace h := h.1 c8
      refine vv_aload_n (mi := mX10_figure) (pc := 23) 0 dX10_figure_23 rfl rfl ?_
      obtain ⟨ht9, h⟩ := h
      refine vv_callV (mi := mX10_figure) (pc := 24) (rest := []) (As := []) (ctX0_isOpen (X := X) h) dX10_figure_24 c4 ht9 (Nat.le_of_ble_eq_true rfl) rfl mb_X0_isOpen rfl ml_X10_175 im_X0_isOpen se_X0_isOpen ⟨(Nat.le_of_ble_eq_true rfl), (Nat.le_of_ble_eq_true rfl)⟩ ⟨(Nat.le_of_ble_eq_true rfl), (Nat.le_of_ble_eq_true rfl)⟩ (Nat.le_of_ble_eq_true rfl) rfl (kI_ (F := fun st M' => VV X mX10_figure rX10_figure (pI_ post) 27 [(3, .inr (.inr r2)), (0, .inr (.inr (some this))), (1, .inl a1), (2, .inl a2)] st M' 0 0) (fun r10 M11 h => ?_))
      refine vv_if_ne (mi := mX10_figure) (pc := 27) 32 dX10_figure_27 rfl (fun c12 => ?_) (fun c12 => ?_)
      · replace h := h.1 c12
        refine vv_aload_n (mi := mX10_figure) (pc := 32) 0 dX10_figure_32 rfl rfl ?_
        refine vv_iload_n (mi := mX10_figure) (pc := 33) 3 dX10_figure_33 rfl rfl ?_
        obtain ⟨ht13, h⟩ := h
        refine vv_callV (mi := mX10_figure) (pc := 34) (rest := []) (As := [.inl a2]) (ctX0_hear (X := X) h) dX10_figure_34 c4 ht13 (Nat.le_of_ble_eq_true rfl) rfl mb_X0_hear rfl ml_X10_179 im_X0_hear se_X0_hear ⟨(Nat.le_of_ble_eq_true rfl), (Nat.le_of_ble_eq_true rfl)⟩ ⟨(Nat.le_of_ble_eq_true rfl), (Nat.le_of_ble_eq_true rfl)⟩ (Nat.le_of_ble_eq_true rfl) rfl (kV_ (F := fun st M' => VV X mX10_figure rX10_figure (pI_ post) 37 [(3, .inr (.inr r2)), (0, .inr (.inr (some this))), (1, .inl a1), (2, .inl a2)] st M' 0 0) (fun M15 h => ?_))
        refine vv_aload_n (mi := mX10_figure) (pc := 37) 0 dX10_figure_37 rfl rfl ?_
        refine vv_aload_n (mi := mX10_figure) (pc := 38) 1 dX10_figure_38 rfl rfl ?_
        obtain ⟨ht16, h⟩ := h
        refine vv_getR (mi := mX10_figure) (pc := 39) 10 0 rfl ht16 fl_X10_10 (Nat.le_of_ble_eq_true rfl) dX10_figure_39 ?_
        refine vv_aload_n (mi := mX10_figure) (pc := 42) 0 dX10_figure_42 rfl rfl ?_
        obtain ⟨ht17, h⟩ := h
        refine vv_getL (mi := mX10_figure) (pc := 43) 0 5 c4 ht17 fl_X10_182 (Nat.le_of_ble_eq_true rfl) dX10_figure_43 ?_
        refine vv_aload_n (mi := mX10_figure) (pc := 46) 0 dX10_figure_46 rfl rfl ?_
        refine vv_getI (mi := mX10_figure) (pc := 47) 0 4 c4 ht17 fl_X10_185 (Nat.le_of_ble_eq_true rfl) dX10_figure_47 ?_
        refine vv_aload_n (mi := mX10_figure) (pc := 50) 0 dX10_figure_50 rfl rfl ?_
        refine vv_getI (mi := mX10_figure) (pc := 51) 0 2 c4 ht17 fl_X10_186 (Nat.le_of_ble_eq_true rfl) dX10_figure_51 ?_
        obtain ⟨aq18, hs19, h⟩ := h
        obtain ⟨ht20, h⟩ := h
        refine vv_callV (mi := mX10_figure) (pc := 54) (rest := [.inr (.inr r2)]) (As := [.inr (.inl (ddL M15 aq5 5)), .inl (ddI M15 aq5 4), .inl (ddI M15 aq5 2)]) (ctX6_read (X := X) h) dX10_figure_54 hs19 ht20 (Nat.le_of_ble_eq_true rfl) rfl mb_X6_read rfl ml_X10_189 im_X6_read se_X6_read ⟨(Nat.le_of_ble_eq_true rfl), (Nat.le_of_ble_eq_true rfl)⟩ ⟨(Nat.le_of_ble_eq_true rfl), (Nat.le_of_ble_eq_true rfl)⟩ (Nat.le_of_ble_eq_true rfl) rfl (kR_ (F := fun st M' => VV X mX10_figure rX10_figure (pI_ post) 57 [(3, .inr (.inr r2)), (0, .inr (.inr (some this))), (1, .inl a1), (2, .inl a2)] st M' 0 0) (fun r21 M22 h => ?_))
        obtain ⟨aq23, hs24, h⟩ := h
        obtain ⟨ht25, h⟩ := h
        refine vv_callV (mi := mX10_figure) (pc := 57) (rest := [.inr (.inr r2)]) (As := []) (ctX8_answer (X := X) h) dX10_figure_57 hs24 ht25 (Nat.le_of_ble_eq_true rfl) rfl mb_X8_answer rfl ml_X10_193 im_X8_answer se_X8_answer ⟨(Nat.le_of_ble_eq_true rfl), (Nat.le_of_ble_eq_true rfl)⟩ ⟨(Nat.le_of_ble_eq_true rfl), (Nat.le_of_ble_eq_true rfl)⟩ (Nat.le_of_ble_eq_true rfl) rfl (kI_ (F := fun st M' => VV X mX10_figure rX10_figure (pI_ post) 60 [(3, .inr (.inr r2)), (0, .inr (.inr (some this))), (1, .inl a1), (2, .inl a2)] st M' 0 0) (fun r26 M27 h => ?_))
        obtain ⟨ht28, h⟩ := h
        obtain ⟨M29, eM29⟩ : ∃ z : Mm, z = suI M27 aq5 3 r26 := ⟨_, rfl⟩
        replace h := h _ eM29
        refine vv_putI (mi := mX10_figure) (pc := 60) 0 3 c4 ht28 fq_X10_198 (fun q => by cases q) rfl (Nat.le_of_ble_eq_true rfl) dX10_figure_60 eM29 ?_
        refine vv_aload_n (mi := mX10_figure) (pc := 63) 0 dX10_figure_63 rfl rfl ?_
        refine vv_aload_n (mi := mX10_figure) (pc := 64) 0 dX10_figure_64 rfl rfl ?_
        refine vv_getI (mi := mX10_figure) (pc := 65) 0 3 c4 (tgI_ eM29 ht28) fl_X10_198 (Nat.le_of_ble_eq_true rfl) dX10_figure_65 ?_
        refine vv_iconst (mi := mX10_figure) (pc := 68) 1 dX10_figure_68 rfl ?_
        refine vv_icmp_eq (mi := mX10_figure) (pc := 69) 80 dX10_figure_69 rfl (fun c30 => ?_) (fun c30 => ?_)
        · replace h := h.1 c30
          refine vv_iconst (mi := mX10_figure) (pc := 80) 1 dX10_figure_80 rfl ?_
          refine vv_goto (mi := mX10_figure) (pc := 81) 85 dX10_figure_81 rfl ?_
          obtain ⟨M31, eM31⟩ : ∃ z : Mm, z = suI M29 aq5 1 1 := ⟨_, rfl⟩
          replace h := h _ eM31
          refine vv_putZ (mi := mX10_figure) (pc := 85) 0 1 (Or.inr rfl) c4 (tgI_ eM29 ht28) fq_X10_200 (fun q => by cases q) rfl (Nat.le_of_ble_eq_true rfl) dX10_figure_85 eM31 ?_
          refine vv_aload_n (mi := mX10_figure) (pc := 88) 0 dX10_figure_88 rfl rfl ?_
          refine vv_getI (mi := mX10_figure) (pc := 89) 0 3 c4 (tgI_ eM31 (tgI_ eM29 ht28)) fl_X10_198 (Nat.le_of_ble_eq_true rfl) dX10_figure_89 ?_
          exact vv_iret (mi := mX10_figure) (pc := 92) dX10_figure_92 rfl (Nat.le_of_ble_eq_true rfl) (Nat.le_of_ble_eq_true rfl) h
        · replace h := h.2 c30
          refine vv_aload_n (mi := mX10_figure) (pc := 72) 0 dX10_figure_72 rfl rfl ?_
          refine vv_getI (mi := mX10_figure) (pc := 73) 0 3 c4 (tgI_ eM29 ht28) fl_X10_198 (Nat.le_of_ble_eq_true rfl) dX10_figure_73 ?_
          refine vv_iconst (mi := mX10_figure) (pc := 76) 3 dX10_figure_76 rfl ?_
          refine vv_icmp_ne (mi := mX10_figure) (pc := 77) 84 dX10_figure_77 rfl (fun c32 => ?_) (fun c32 => ?_)
          · replace h := h.1 c32
            refine vv_iconst (mi := mX10_figure) (pc := 84) 0 dX10_figure_84 rfl ?_
            obtain ⟨M33, eM33⟩ : ∃ z : Mm, z = suI M29 aq5 1 0 := ⟨_, rfl⟩
            replace h := h _ eM33
            refine vv_putZ (mi := mX10_figure) (pc := 85) 0 1 (Or.inl rfl) c4 (tgI_ eM29 ht28) fq_X10_200 (fun q => by cases q) rfl (Nat.le_of_ble_eq_true rfl) dX10_figure_85 eM33 ?_
            refine vv_aload_n (mi := mX10_figure) (pc := 88) 0 dX10_figure_88 rfl rfl ?_
            refine vv_getI (mi := mX10_figure) (pc := 89) 0 3 c4 (tgI_ eM33 (tgI_ eM29 ht28)) fl_X10_198 (Nat.le_of_ble_eq_true rfl) dX10_figure_89 ?_
            exact vv_iret (mi := mX10_figure) (pc := 92) dX10_figure_92 rfl (Nat.le_of_ble_eq_true rfl) (Nat.le_of_ble_eq_true rfl) h
          · replace h := h.2 c32
            refine vv_iconst (mi := mX10_figure) (pc := 80) 1 dX10_figure_80 rfl ?_
            refine vv_goto (mi := mX10_figure) (pc := 81) 85 dX10_figure_81 rfl ?_
            obtain ⟨M34, eM34⟩ : ∃ z : Mm, z = suI M29 aq5 1 1 := ⟨_, rfl⟩
            replace h := h _ eM34
            refine vv_putZ (mi := mX10_figure) (pc := 85) 0 1 (Or.inr rfl) c4 (tgI_ eM29 ht28) fq_X10_200 (fun q => by cases q) rfl (Nat.le_of_ble_eq_true rfl) dX10_figure_85 eM34 ?_
            refine vv_aload_n (mi := mX10_figure) (pc := 88) 0 dX10_figure_88 rfl rfl ?_
            refine vv_getI (mi := mX10_figure) (pc := 89) 0 3 c4 (tgI_ eM34 (tgI_ eM29 ht28)) fl_X10_198 (Nat.le_of_ble_eq_true rfl) dX10_figure_89 ?_
            exact vv_iret (mi := mX10_figure) (pc := 92) dX10_figure_92 rfl (Nat.le_of_ble_eq_true rfl) (Nat.le_of_ble_eq_true rfl) h
      · replace h := h.2 c12
        refine vv_iconst (mi := mX10_figure) (pc := 30) (-1) dX10_figure_30 rfl ?_
        exact vv_iret (mi := mX10_figure) (pc := 31) dX10_figure_31 rfl (Nat.le_of_ble_eq_true rfl) (Nat.le_of_ble_eq_true rfl) h
    · replace h := h.2 c8
      refine vv_bipush (mi := mX10_figure) (pc := 20) (-2) dX10_figure_20 rfl ?_
      exact vv_iret (mi := mX10_figure) (pc := 22) dX10_figure_22 rfl (Nat.le_of_ble_eq_true rfl) (Nat.le_of_ble_eq_true rfl) h
set_option maxHeartbeats 4000000 in
set_option maxRecDepth 100000 in
theorem ctX10_waits {X : Cx_} {this : Nat} {a1 : Int32} {M : Mm} {post : Int32 → Mm → Prop} (h : PX10_waits this a1 M post) : CT X mX10_waits rX10_waits [.inr (.inr (some this)), .inl a1] M (pI_ post) := by
  unfold PX10_waits at h
  refine CT.of (by decide +kernel) (Nat.le_of_ble_eq_true rfl) ?_
  show VV X mX10_waits rX10_waits (pI_ post) 0 [(0, .inr (.inr (some this))), (1, .inl a1)] [] M 0 0
  refine vv_aload_n (mi := mX10_waits) (pc := 0) 0 dX10_waits_0 rfl rfl ?_
  refine vv_iload_n (mi := mX10_waits) (pc := 1) 1 dX10_waits_1 rfl rfl ?_
  obtain ⟨ht1, h⟩ := h
  refine vv_callV (mi := mX10_waits) (pc := 2) (rest := []) (As := [.inl a1]) (ctX10_callWith (X := X) h) dX10_waits_2 rfl ht1 (Nat.le_of_ble_eq_true rfl) rfl mb_X10_callWith rfl ml_X10_167 im_X10_callWith se_X10_callWith ⟨(Nat.le_of_ble_eq_true rfl), (Nat.le_of_ble_eq_true rfl)⟩ ⟨(Nat.le_of_ble_eq_true rfl), (Nat.le_of_ble_eq_true rfl)⟩ (Nat.le_of_ble_eq_true rfl) rfl (kR_ (F := fun st M' => VV X mX10_waits rX10_waits (pI_ post) 5 [(0, .inr (.inr (some this))), (1, .inl a1)] st M' 0 0) (fun r2 M3 h => ?_))
  refine vv_astore_n (mi := mX10_waits) (pc := 5) [(2, .inr (.inr r2)), (0, .inr (.inr (some this))), (1, .inl a1)] dX10_waits_5 rfl (Nat.le_of_ble_eq_true rfl) rfl ?_
  refine vv_aload_n (mi := mX10_waits) (pc := 6) 0 dX10_waits_6 rfl rfl ?_
  refine vv_ifnonnull (mi := mX10_waits) (pc := 7) 13 dX10_waits_7 rfl (fun aq5 c4 => ?_) (fun c4 => ?_)
  · replace h := h.2 aq5 c4
    refine vv_aload_n (mi := mX10_waits) (pc := 13) 0 dX10_waits_13 rfl rfl ?_
    obtain ⟨ht6, h⟩ := h
    refine vv_callV (mi := mX10_waits) (pc := 14) (rest := []) (As := []) (ctX0_isOpen (X := X) h) dX10_waits_14 c4 ht6 (Nat.le_of_ble_eq_true rfl) rfl mb_X0_isOpen rfl ml_X10_175 im_X0_isOpen se_X0_isOpen ⟨(Nat.le_of_ble_eq_true rfl), (Nat.le_of_ble_eq_true rfl)⟩ ⟨(Nat.le_of_ble_eq_true rfl), (Nat.le_of_ble_eq_true rfl)⟩ (Nat.le_of_ble_eq_true rfl) rfl (kI_ (F := fun st M' => VV X mX10_waits rX10_waits (pI_ post) 17 [(2, .inr (.inr r2)), (0, .inr (.inr (some this))), (1, .inl a1)] st M' 0 0) (fun r7 M8 h => ?_))
    refine vv_if_ne (mi := mX10_waits) (pc := 17) 22 dX10_waits_17 rfl (fun c9 => ?_) (fun c9 => ?_)
    · replace h := h.1 c9
      refine vv_aload_n (mi := mX10_waits) (pc := 22) 0 dX10_waits_22 rfl rfl ?_
      refine vv_aload_n (mi := mX10_waits) (pc := 23) 0 dX10_waits_23 rfl rfl ?_
      obtain ⟨ht10, h⟩ := h
      refine vv_getI (mi := mX10_waits) (pc := 24) 0 3 c4 ht10 fl_X10_198 (Nat.le_of_ble_eq_true rfl) dX10_waits_24 ?_
      refine vv_iconst (mi := mX10_waits) (pc := 27) 2 dX10_waits_27 rfl ?_
      refine vv_icmp_ne (mi := mX10_waits) (pc := 28) 35 dX10_waits_28 rfl (fun c11 => ?_) (fun c11 => ?_)
      · replace h := h.1 c11
        refine vv_iconst (mi := mX10_waits) (pc := 35) 0 dX10_waits_35 rfl ?_
        obtain ⟨M12, eM12⟩ : ∃ z : Mm, z = suI M8 aq5 1 0 := ⟨_, rfl⟩
        replace h := h _ eM12
        refine vv_putZ (mi := mX10_waits) (pc := 36) 0 1 (Or.inl rfl) c4 ht10 fq_X10_200 (fun q => by cases q) rfl (Nat.le_of_ble_eq_true rfl) dX10_waits_36 eM12 ?_
        refine vv_aload_n (mi := mX10_waits) (pc := 39) 0 dX10_waits_39 rfl rfl ?_
        refine vv_getI (mi := mX10_waits) (pc := 40) 0 1 c4 (tgI_ eM12 ht10) fl_X10_200 (Nat.le_of_ble_eq_true rfl) dX10_waits_40 ?_
        refine vv_if_eq (mi := mX10_waits) (pc := 43) 50 dX10_waits_43 rfl (fun c13 => ?_) (fun c13 => ?_)
        · replace h := h.1 c13
          refine vv_iconst (mi := mX10_waits) (pc := 50) 0 dX10_waits_50 rfl ?_
          exact vv_iret (mi := mX10_waits) (pc := 51) dX10_waits_51 rfl (Nat.le_of_ble_eq_true rfl) (Nat.le_of_ble_eq_true rfl) h
        · replace h := h.2 c13
          refine vv_iconst (mi := mX10_waits) (pc := 46) 1 dX10_waits_46 rfl ?_
          refine vv_goto (mi := mX10_waits) (pc := 47) 51 dX10_waits_47 rfl ?_
          exact vv_iret (mi := mX10_waits) (pc := 51) dX10_waits_51 rfl (Nat.le_of_ble_eq_true rfl) (Nat.le_of_ble_eq_true rfl) h
      · replace h := h.2 c11
        refine vv_iconst (mi := mX10_waits) (pc := 31) 1 dX10_waits_31 rfl ?_
        refine vv_goto (mi := mX10_waits) (pc := 32) 36 dX10_waits_32 rfl ?_
        obtain ⟨M14, eM14⟩ : ∃ z : Mm, z = suI M8 aq5 1 1 := ⟨_, rfl⟩
        replace h := h _ eM14
        refine vv_putZ (mi := mX10_waits) (pc := 36) 0 1 (Or.inr rfl) c4 ht10 fq_X10_200 (fun q => by cases q) rfl (Nat.le_of_ble_eq_true rfl) dX10_waits_36 eM14 ?_
        refine vv_aload_n (mi := mX10_waits) (pc := 39) 0 dX10_waits_39 rfl rfl ?_
        refine vv_getI (mi := mX10_waits) (pc := 40) 0 1 c4 (tgI_ eM14 ht10) fl_X10_200 (Nat.le_of_ble_eq_true rfl) dX10_waits_40 ?_
        refine vv_if_eq (mi := mX10_waits) (pc := 43) 50 dX10_waits_43 rfl (fun c15 => ?_) (fun c15 => ?_)
        · replace h := h.1 c15
          refine vv_iconst (mi := mX10_waits) (pc := 50) 0 dX10_waits_50 rfl ?_
          exact vv_iret (mi := mX10_waits) (pc := 51) dX10_waits_51 rfl (Nat.le_of_ble_eq_true rfl) (Nat.le_of_ble_eq_true rfl) h
        · replace h := h.2 c15
          refine vv_iconst (mi := mX10_waits) (pc := 46) 1 dX10_waits_46 rfl ?_
          refine vv_goto (mi := mX10_waits) (pc := 47) 51 dX10_waits_47 rfl ?_
          exact vv_iret (mi := mX10_waits) (pc := 51) dX10_waits_51 rfl (Nat.le_of_ble_eq_true rfl) (Nat.le_of_ble_eq_true rfl) h
    · replace h := h.2 c9
      refine vv_iconst (mi := mX10_waits) (pc := 20) (-1) dX10_waits_20 rfl ?_
      exact vv_iret (mi := mX10_waits) (pc := 21) dX10_waits_21 rfl (Nat.le_of_ble_eq_true rfl) (Nat.le_of_ble_eq_true rfl) h
  · replace h := h.1 c4
    refine vv_bipush (mi := mX10_waits) (pc := 10) (-2) dX10_waits_10 rfl ?_
    exact vv_iret (mi := mX10_waits) (pc := 12) dX10_waits_12 rfl (Nat.le_of_ble_eq_true rfl) (Nat.le_of_ble_eq_true rfl) h
set_option maxHeartbeats 4000000 in
set_option maxRecDepth 100000 in
theorem ctX10_tellOfLead {X : Cx_} {this : Nat} {a1 : Option Nat} {a2 : Int32} {M : Mm} {post : Int32 → Mm → Prop} (h : PX10_tellOfLead this a1 a2 M post) : CT X mX10_tellOfLead rX10_tellOfLead [.inr (.inr (some this)), .inr (.inr a1), .inl a2] M (pI_ post) := by
  unfold PX10_tellOfLead at h
  refine CT.of (by decide +kernel) (Nat.le_of_ble_eq_true rfl) ?_
  show VV X mX10_tellOfLead rX10_tellOfLead (pI_ post) 0 [(0, .inr (.inr (some this))), (1, .inr (.inr a1)), (2, .inl a2)] [] M 0 0
  refine vv_aload_n (mi := mX10_tellOfLead) (pc := 0) 0 dX10_tellOfLead_0 rfl rfl ?_
  obtain ⟨ht1, h⟩ := h
  refine vv_getR (mi := mX10_tellOfLead) (pc := 1) 10 0 rfl ht1 fl_X10_10 (Nat.le_of_ble_eq_true rfl) dX10_tellOfLead_1 ?_
  refine vv_aload_n (mi := mX10_tellOfLead) (pc := 4) 1 dX10_tellOfLead_4 rfl rfl ?_
  obtain ⟨aq2, hs3, h⟩ := h
  obtain ⟨ht4, h⟩ := h
  refine vv_getL (mi := mX10_tellOfLead) (pc := 5) 0 5 hs3 ht4 fl_X10_182 (Nat.le_of_ble_eq_true rfl) dX10_tellOfLead_5 ?_
  refine vv_aload_n (mi := mX10_tellOfLead) (pc := 8) 1 dX10_tellOfLead_8 rfl rfl ?_
  refine vv_getI (mi := mX10_tellOfLead) (pc := 9) 0 4 hs3 ht4 fl_X10_185 (Nat.le_of_ble_eq_true rfl) dX10_tellOfLead_9 ?_
  refine vv_aload_n (mi := mX10_tellOfLead) (pc := 12) 1 dX10_tellOfLead_12 rfl rfl ?_
  refine vv_getI (mi := mX10_tellOfLead) (pc := 13) 0 2 hs3 ht4 fl_X10_186 (Nat.le_of_ble_eq_true rfl) dX10_tellOfLead_13 ?_
  obtain ⟨aq5, hs6, h⟩ := h
  obtain ⟨ht7, h⟩ := h
  refine vv_callV (mi := mX10_tellOfLead) (pc := 16) (rest := []) (As := [.inr (.inl (ddL M aq2 5)), .inl (ddI M aq2 4), .inl (ddI M aq2 2)]) (ctX6_leadOf (X := X) h) dX10_tellOfLead_16 hs6 ht7 (Nat.le_of_ble_eq_true rfl) rfl mb_X6_leadOf rfl ml_X10_214 im_X6_leadOf se_X6_leadOf ⟨(Nat.le_of_ble_eq_true rfl), (Nat.le_of_ble_eq_true rfl)⟩ ⟨(Nat.le_of_ble_eq_true rfl), (Nat.le_of_ble_eq_true rfl)⟩ (Nat.le_of_ble_eq_true rfl) rfl (kR_ (F := fun st M' => VV X mX10_tellOfLead rX10_tellOfLead (pI_ post) 19 [(0, .inr (.inr (some this))), (1, .inr (.inr a1)), (2, .inl a2)] st M' 0 0) (fun r8 M9 h => ?_))
  refine vv_astore_n (mi := mX10_tellOfLead) (pc := 19) [(3, .inr (.inr r8)), (0, .inr (.inr (some this))), (1, .inr (.inr a1)), (2, .inl a2)] dX10_tellOfLead_19 rfl (Nat.le_of_ble_eq_true rfl) rfl ?_
  refine vv_aload_n (mi := mX10_tellOfLead) (pc := 20) 0 dX10_tellOfLead_20 rfl rfl ?_
  refine vv_ifnonnull (mi := mX10_tellOfLead) (pc := 21) 26 dX10_tellOfLead_21 rfl (fun aq11 c10 => ?_) (fun c10 => ?_)
  · replace h := h.2 aq11 c10
    refine vv_iload_n (mi := mX10_tellOfLead) (pc := 26) 3 dX10_tellOfLead_26 rfl rfl ?_
    refine vv_iconst (mi := mX10_tellOfLead) (pc := 27) 4 dX10_tellOfLead_27 rfl ?_
    refine vv_icmp_ne (mi := mX10_tellOfLead) (pc := 28) 36 dX10_tellOfLead_28 rfl (fun c12 => ?_) (fun c12 => ?_)
    · replace h := h.1 c12
      refine vv_iload_n (mi := mX10_tellOfLead) (pc := 36) 3 dX10_tellOfLead_36 rfl rfl ?_
      refine vv_bipush (mi := mX10_tellOfLead) (pc := 37) 7 dX10_tellOfLead_37 rfl ?_
      refine vv_icmp_ne (mi := mX10_tellOfLead) (pc := 39) 59 dX10_tellOfLead_39 rfl (fun c13 => ?_) (fun c13 => ?_)
      · replace h := h.1 c13
        refine vv_aload_n (mi := mX10_tellOfLead) (pc := 59) 1 dX10_tellOfLead_59 rfl rfl ?_
        obtain ⟨ht14, h⟩ := h
        refine vv_getR (mi := mX10_tellOfLead) (pc := 60) 10 1 rfl ht14 fl_X10_19 (Nat.le_of_ble_eq_true rfl) dX10_tellOfLead_60 ?_
        refine vv_aload_n (mi := mX10_tellOfLead) (pc := 63) 0 dX10_tellOfLead_63 rfl rfl ?_
        refine vv_aload_n (mi := mX10_tellOfLead) (pc := 64) 2 dX10_tellOfLead_64 rfl rfl ?_
        obtain ⟨ht15, h⟩ := h
        refine vv_getL (mi := mX10_tellOfLead) (pc := 65) 0 5 hs3 ht15 fl_X10_182 (Nat.le_of_ble_eq_true rfl) dX10_tellOfLead_65 ?_
        refine vv_aload_n (mi := mX10_tellOfLead) (pc := 68) 2 dX10_tellOfLead_68 rfl rfl ?_
        refine vv_getI (mi := mX10_tellOfLead) (pc := 69) 0 4 hs3 ht15 fl_X10_185 (Nat.le_of_ble_eq_true rfl) dX10_tellOfLead_69 ?_
        refine vv_aload_n (mi := mX10_tellOfLead) (pc := 72) 2 dX10_tellOfLead_72 rfl rfl ?_
        refine vv_getI (mi := mX10_tellOfLead) (pc := 73) 0 2 hs3 ht15 fl_X10_186 (Nat.le_of_ble_eq_true rfl) dX10_tellOfLead_73 ?_
        obtain ⟨aq16, hs17, h⟩ := h
        obtain ⟨ht18, h⟩ := h
        refine vv_callV (mi := mX10_tellOfLead) (pc := 76) (rest := []) (As := [.inr (.inr r8), .inr (.inl (ddL M9 aq2 5)), .inl (ddI M9 aq2 4), .inl (ddI M9 aq2 2)]) (ctX4_findBy (X := X) h) dX10_tellOfLead_76 hs17 ht18 (Nat.le_of_ble_eq_true rfl) rfl mb_X4_findBy rfl ml_X10_218 im_X4_findBy se_X4_findBy ⟨(Nat.le_of_ble_eq_true rfl), (Nat.le_of_ble_eq_true rfl)⟩ ⟨(Nat.le_of_ble_eq_true rfl), (Nat.le_of_ble_eq_true rfl)⟩ (Nat.le_of_ble_eq_true rfl) rfl (kI_ (F := fun st M' => VV X mX10_tellOfLead rX10_tellOfLead (pI_ post) 79 [(3, .inr (.inr r8)), (0, .inr (.inr (some this))), (1, .inr (.inr a1)), (2, .inl a2)] st M' 0 0) (fun r19 M20 h => ?_))
        refine vv_istore (mi := mX10_tellOfLead) (pc := 79) [(4, .inl r19), (3, .inr (.inr r8)), (0, .inr (.inr (some this))), (1, .inr (.inr a1)), (2, .inl a2)] dX10_tellOfLead_79 (Nat.le_of_ble_eq_true rfl) rfl ?_
        refine vv_aload_n (mi := mX10_tellOfLead) (pc := 81) 2 dX10_tellOfLead_81 rfl rfl ?_
        obtain ⟨ht21, h⟩ := h
        refine vv_getR (mi := mX10_tellOfLead) (pc := 82) 10 1 rfl ht21 fl_X10_19 (Nat.le_of_ble_eq_true rfl) dX10_tellOfLead_82 ?_
        refine vv_iload (mi := mX10_tellOfLead) (pc := 85) 0 dX10_tellOfLead_85 rfl ?_
        obtain ⟨aq22, hs23, h⟩ := h
        obtain ⟨ht24, h⟩ := h
        refine vv_callV (mi := mX10_tellOfLead) (pc := 87) (rest := []) (As := [.inl r19]) (ctX4_lineWith (X := X) h) dX10_tellOfLead_87 hs23 ht24 (Nat.le_of_ble_eq_true rfl) rfl mb_X4_lineWith rfl ml_X10_138 im_X4_lineWith se_X4_lineWith ⟨(Nat.le_of_ble_eq_true rfl), (Nat.le_of_ble_eq_true rfl)⟩ ⟨(Nat.le_of_ble_eq_true rfl), (Nat.le_of_ble_eq_true rfl)⟩ (Nat.le_of_ble_eq_true rfl) rfl (kR_ (F := fun st M' => VV X mX10_tellOfLead rX10_tellOfLead (pI_ post) 90 [(4, .inl r19), (3, .inr (.inr r8)), (0, .inr (.inr (some this))), (1, .inr (.inr a1)), (2, .inl a2)] st M' 0 0) (fun r25 M26 h => ?_))
        refine vv_astore (mi := mX10_tellOfLead) (pc := 90) [(5, .inr (.inr r25)), (4, .inl r19), (3, .inr (.inr r8)), (0, .inr (.inr (some this))), (1, .inr (.inr a1)), (2, .inl a2)] dX10_tellOfLead_90 (Nat.le_of_ble_eq_true rfl) rfl ?_
        refine vv_iload_n (mi := mX10_tellOfLead) (pc := 92) 5 dX10_tellOfLead_92 rfl rfl ?_
        refine vv_iconst (mi := mX10_tellOfLead) (pc := 93) 5 dX10_tellOfLead_93 rfl ?_
        refine vv_icmp_eq (mi := mX10_tellOfLead) (pc := 94) 102 dX10_tellOfLead_94 rfl (fun c27 => ?_) (fun c27 => ?_)
        · replace h := h.1 c27
          refine vv_iload (mi := mX10_tellOfLead) (pc := 102) 1 dX10_tellOfLead_102 rfl ?_
          refine vv_goto (mi := mX10_tellOfLead) (pc := 104) 116 dX10_tellOfLead_104 rfl ?_
          exact vv_iret (mi := mX10_tellOfLead) (pc := 116) dX10_tellOfLead_116 rfl (Nat.le_of_ble_eq_true rfl) (Nat.le_of_ble_eq_true rfl) h
        · replace h := h.2 c27
          refine vv_aload (mi := mX10_tellOfLead) (pc := 97) 0 dX10_tellOfLead_97 rfl ?_
          refine vv_ifnonnull (mi := mX10_tellOfLead) (pc := 99) 107 dX10_tellOfLead_99 rfl (fun aq29 c28 => ?_) (fun c28 => ?_)
          · replace h := h.2 aq29 c28
            refine vv_aload (mi := mX10_tellOfLead) (pc := 107) 0 dX10_tellOfLead_107 rfl ?_
            refine vv_aload_n (mi := mX10_tellOfLead) (pc := 109) 4 dX10_tellOfLead_109 rfl rfl ?_
            obtain ⟨ht30, h⟩ := h
            refine vv_getI (mi := mX10_tellOfLead) (pc := 110) 0 2 hs3 ht30 fl_X10_186 (Nat.le_of_ble_eq_true rfl) dX10_tellOfLead_110 ?_
            obtain ⟨ht31, h⟩ := h
            refine vv_callV (mi := mX10_tellOfLead) (pc := 113) (rest := []) (As := [.inl (ddI M26 aq2 2)]) (ctX3_carrierOn (X := X) h) dX10_tellOfLead_113 c28 ht31 (Nat.le_of_ble_eq_true rfl) rfl mb_X3_carrierOn rfl ml_X10_164 im_X3_carrierOn se_X3_carrierOn ⟨(Nat.le_of_ble_eq_true rfl), (Nat.le_of_ble_eq_true rfl)⟩ ⟨(Nat.le_of_ble_eq_true rfl), (Nat.le_of_ble_eq_true rfl)⟩ (Nat.le_of_ble_eq_true rfl) rfl (kI_ (F := fun st M' => VV X mX10_tellOfLead rX10_tellOfLead (pI_ post) 116 [(5, .inr (.inr r25)), (4, .inl r19), (3, .inr (.inr r8)), (0, .inr (.inr (some this))), (1, .inr (.inr a1)), (2, .inl a2)] st M' 0 0) (fun r32 M33 h => ?_))
            exact vv_iret (mi := mX10_tellOfLead) (pc := 116) dX10_tellOfLead_116 rfl (Nat.le_of_ble_eq_true rfl) (Nat.le_of_ble_eq_true rfl) h
          · replace h := h.1 c28
            refine vv_iload (mi := mX10_tellOfLead) (pc := 102) 1 dX10_tellOfLead_102 rfl ?_
            refine vv_goto (mi := mX10_tellOfLead) (pc := 104) 116 dX10_tellOfLead_104 rfl ?_
            exact vv_iret (mi := mX10_tellOfLead) (pc := 116) dX10_tellOfLead_116 rfl (Nat.le_of_ble_eq_true rfl) (Nat.le_of_ble_eq_true rfl) h
      · replace h := h.2 c13
        refine vv_aload_n (mi := mX10_tellOfLead) (pc := 42) 0 dX10_tellOfLead_42 rfl rfl ?_
        obtain ⟨ht34, h⟩ := h
        refine vv_getI (mi := mX10_tellOfLead) (pc := 43) 2 0 c10 ht34 fl_X10_72 (Nat.le_of_ble_eq_true rfl) dX10_tellOfLead_43 ?_
        refine vv_iconst (mi := mX10_tellOfLead) (pc := 46) 1 dX10_tellOfLead_46 rfl ?_
        refine vv_icmp_ne (mi := mX10_tellOfLead) (pc := 47) 57 dX10_tellOfLead_47 rfl (fun c35 => ?_) (fun c35 => ?_)
        · replace h := h.1 c35
          refine vv_iconst (mi := mX10_tellOfLead) (pc := 57) (-1) dX10_tellOfLead_57 rfl ?_
          exact vv_iret (mi := mX10_tellOfLead) (pc := 58) dX10_tellOfLead_58 rfl (Nat.le_of_ble_eq_true rfl) (Nat.le_of_ble_eq_true rfl) h
        · replace h := h.2 c35
          refine vv_aload_n (mi := mX10_tellOfLead) (pc := 50) 0 dX10_tellOfLead_50 rfl rfl ?_
          refine vv_getI (mi := mX10_tellOfLead) (pc := 51) 2 1 c10 ht34 fl_X10_108 (Nat.le_of_ble_eq_true rfl) dX10_tellOfLead_51 ?_
          refine vv_goto (mi := mX10_tellOfLead) (pc := 54) 58 dX10_tellOfLead_54 rfl ?_
          exact vv_iret (mi := mX10_tellOfLead) (pc := 58) dX10_tellOfLead_58 rfl (Nat.le_of_ble_eq_true rfl) (Nat.le_of_ble_eq_true rfl) h
    · replace h := h.2 c12
      refine vv_aload_n (mi := mX10_tellOfLead) (pc := 31) 0 dX10_tellOfLead_31 rfl rfl ?_
      obtain ⟨ht36, h⟩ := h
      refine vv_getI (mi := mX10_tellOfLead) (pc := 32) 2 9 c10 ht36 fl_X10_161 (Nat.le_of_ble_eq_true rfl) dX10_tellOfLead_32 ?_
      exact vv_iret (mi := mX10_tellOfLead) (pc := 35) dX10_tellOfLead_35 rfl (Nat.le_of_ble_eq_true rfl) (Nat.le_of_ble_eq_true rfl) h
  · replace h := h.1 c10
    refine vv_iconst (mi := mX10_tellOfLead) (pc := 24) (-1) dX10_tellOfLead_24 rfl ?_
    exact vv_iret (mi := mX10_tellOfLead) (pc := 25) dX10_tellOfLead_25 rfl (Nat.le_of_ble_eq_true rfl) (Nat.le_of_ble_eq_true rfl) h
set_option maxHeartbeats 4000000 in
set_option maxRecDepth 100000 in
theorem ctX10_tellOfRest {X : Cx_} {this : Nat} {a1 : Option Nat} {a2 : Int32} {M : Mm} {post : Int32 → Mm → Prop} (h : PX10_tellOfRest this a1 a2 M post) : CT X mX10_tellOfRest rX10_tellOfRest [.inr (.inr (some this)), .inr (.inr a1), .inl a2] M (pI_ post) := by
  unfold PX10_tellOfRest at h
  refine CT.of (by decide +kernel) (Nat.le_of_ble_eq_true rfl) ?_
  show VV X mX10_tellOfRest rX10_tellOfRest (pI_ post) 0 [(0, .inr (.inr (some this))), (1, .inr (.inr a1)), (2, .inl a2)] [] M 0 0
  refine vv_aload_n (mi := mX10_tellOfRest) (pc := 0) 1 dX10_tellOfRest_0 rfl rfl ?_
  obtain ⟨aq1, hs2, h⟩ := h
  obtain ⟨ht3, h⟩ := h
  refine vv_getI (mi := mX10_tellOfRest) (pc := 1) 0 1 hs2 ht3 fl_X10_200 (Nat.le_of_ble_eq_true rfl) dX10_tellOfRest_1 ?_
  refine vv_if_eq (mi := mX10_tellOfRest) (pc := 4) 19 dX10_tellOfRest_4 rfl (fun c4 => ?_) (fun c4 => ?_)
  · replace h := h.1 c4
    refine vv_aload_n (mi := mX10_tellOfRest) (pc := 19) 0 dX10_tellOfRest_19 rfl rfl ?_
    obtain ⟨ht5, h⟩ := h
    refine vv_getR (mi := mX10_tellOfRest) (pc := 20) 10 0 rfl ht5 fl_X10_10 (Nat.le_of_ble_eq_true rfl) dX10_tellOfRest_20 ?_
    refine vv_aload_n (mi := mX10_tellOfRest) (pc := 23) 1 dX10_tellOfRest_23 rfl rfl ?_
    refine vv_getL (mi := mX10_tellOfRest) (pc := 24) 0 5 hs2 ht3 fl_X10_182 (Nat.le_of_ble_eq_true rfl) dX10_tellOfRest_24 ?_
    refine vv_aload_n (mi := mX10_tellOfRest) (pc := 27) 1 dX10_tellOfRest_27 rfl rfl ?_
    refine vv_getI (mi := mX10_tellOfRest) (pc := 28) 0 4 hs2 ht3 fl_X10_185 (Nat.le_of_ble_eq_true rfl) dX10_tellOfRest_28 ?_
    refine vv_aload_n (mi := mX10_tellOfRest) (pc := 31) 1 dX10_tellOfRest_31 rfl rfl ?_
    refine vv_getI (mi := mX10_tellOfRest) (pc := 32) 0 2 hs2 ht3 fl_X10_186 (Nat.le_of_ble_eq_true rfl) dX10_tellOfRest_32 ?_
    obtain ⟨aq6, hs7, h⟩ := h
    obtain ⟨ht8, h⟩ := h
    refine vv_callV (mi := mX10_tellOfRest) (pc := 35) (rest := []) (As := [.inr (.inl (ddL M aq1 5)), .inl (ddI M aq1 4), .inl (ddI M aq1 2)]) (ctX6_read (X := X) h) dX10_tellOfRest_35 hs7 ht8 (Nat.le_of_ble_eq_true rfl) rfl mb_X6_read rfl ml_X10_189 im_X6_read se_X6_read ⟨(Nat.le_of_ble_eq_true rfl), (Nat.le_of_ble_eq_true rfl)⟩ ⟨(Nat.le_of_ble_eq_true rfl), (Nat.le_of_ble_eq_true rfl)⟩ (Nat.le_of_ble_eq_true rfl) rfl (kR_ (F := fun st M' => VV X mX10_tellOfRest rX10_tellOfRest (pI_ post) 38 [(0, .inr (.inr (some this))), (1, .inr (.inr a1)), (2, .inl a2)] st M' 0 0) (fun r9 M10 h => ?_))
    refine vv_astore_n (mi := mX10_tellOfRest) (pc := 38) [(3, .inr (.inr r9)), (0, .inr (.inr (some this))), (1, .inr (.inr a1)), (2, .inl a2)] dX10_tellOfRest_38 rfl (Nat.le_of_ble_eq_true rfl) rfl ?_
    refine vv_iload_n (mi := mX10_tellOfRest) (pc := 39) 3 dX10_tellOfRest_39 rfl rfl ?_
    refine vv_bipush (mi := mX10_tellOfRest) (pc := 40) 8 dX10_tellOfRest_40 rfl ?_
    refine vv_icmp_ne (mi := mX10_tellOfRest) (pc := 42) 50 dX10_tellOfRest_42 rfl (fun c11 => ?_) (fun c11 => ?_)
    · replace h := h.1 c11
      refine vv_iload_n (mi := mX10_tellOfRest) (pc := 50) 3 dX10_tellOfRest_50 rfl rfl ?_
      refine vv_bipush (mi := mX10_tellOfRest) (pc := 51) 9 dX10_tellOfRest_51 rfl ?_
      refine vv_icmp_ne (mi := mX10_tellOfRest) (pc := 53) 63 dX10_tellOfRest_53 rfl (fun c12 => ?_) (fun c12 => ?_)
      · replace h := h.1 c12
        refine vv_aload_n (mi := mX10_tellOfRest) (pc := 63) 0 dX10_tellOfRest_63 rfl rfl ?_
        obtain ⟨aq13, hs14, h⟩ := h
        obtain ⟨ht15, h⟩ := h
        refine vv_getI (mi := mX10_tellOfRest) (pc := 64) 8 3 hs14 ht15 fl_X10_291 (Nat.le_of_ble_eq_true rfl) dX10_tellOfRest_64 ?_
        exact vv_iret (mi := mX10_tellOfRest) (pc := 67) dX10_tellOfRest_67 rfl (Nat.le_of_ble_eq_true rfl) (Nat.le_of_ble_eq_true rfl) h
      · replace h := h.2 c12
        refine vv_aload_n (mi := mX10_tellOfRest) (pc := 56) 0 dX10_tellOfRest_56 rfl rfl ?_
        obtain ⟨aq16, hs17, h⟩ := h
        obtain ⟨ht18, h⟩ := h
        refine vv_getI (mi := mX10_tellOfRest) (pc := 57) 8 2 hs17 ht18 fl_X10_288 (Nat.le_of_ble_eq_true rfl) dX10_tellOfRest_57 ?_
        refine vv_goto (mi := mX10_tellOfRest) (pc := 60) 67 dX10_tellOfRest_60 rfl ?_
        exact vv_iret (mi := mX10_tellOfRest) (pc := 67) dX10_tellOfRest_67 rfl (Nat.le_of_ble_eq_true rfl) (Nat.le_of_ble_eq_true rfl) h
    · replace h := h.2 c11
      refine vv_aload_n (mi := mX10_tellOfRest) (pc := 45) 0 dX10_tellOfRest_45 rfl rfl ?_
      obtain ⟨aq19, hs20, h⟩ := h
      obtain ⟨ht21, h⟩ := h
      refine vv_getI (mi := mX10_tellOfRest) (pc := 46) 8 1 hs20 ht21 fl_X10_285 (Nat.le_of_ble_eq_true rfl) dX10_tellOfRest_46 ?_
      exact vv_iret (mi := mX10_tellOfRest) (pc := 49) dX10_tellOfRest_49 rfl (Nat.le_of_ble_eq_true rfl) (Nat.le_of_ble_eq_true rfl) h
  · replace h := h.2 c4
    refine vv_iload_n (mi := mX10_tellOfRest) (pc := 7) 2 dX10_tellOfRest_7 rfl rfl ?_
    refine vv_bipush (mi := mX10_tellOfRest) (pc := 8) 8 dX10_tellOfRest_8 rfl ?_
    refine vv_icmp_ne (mi := mX10_tellOfRest) (pc := 10) 17 dX10_tellOfRest_10 rfl (fun c22 => ?_) (fun c22 => ?_)
    · replace h := h.1 c22
      refine vv_iconst (mi := mX10_tellOfRest) (pc := 17) (-1) dX10_tellOfRest_17 rfl ?_
      exact vv_iret (mi := mX10_tellOfRest) (pc := 18) dX10_tellOfRest_18 rfl (Nat.le_of_ble_eq_true rfl) (Nat.le_of_ble_eq_true rfl) h
    · replace h := h.2 c22
      refine vv_iconst (mi := mX10_tellOfRest) (pc := 13) 0 dX10_tellOfRest_13 rfl ?_
      refine vv_goto (mi := mX10_tellOfRest) (pc := 14) 18 dX10_tellOfRest_14 rfl ?_
      exact vv_iret (mi := mX10_tellOfRest) (pc := 18) dX10_tellOfRest_18 rfl (Nat.le_of_ble_eq_true rfl) (Nat.le_of_ble_eq_true rfl) h
set_option maxHeartbeats 4000000 in
set_option maxRecDepth 100000 in
theorem ctX10_told {X : Cx_} {this : Nat} {a1 : Int32} {a2 : Int32} {M : Mm} {post : Int32 → Mm → Prop} (h : PX10_told this a1 a2 M post) : CT X mX10_told rX10_told [.inr (.inr (some this)), .inl a1, .inl a2] M (pI_ post) := by
  unfold PX10_told at h
  refine CT.of (by decide +kernel) (Nat.le_of_ble_eq_true rfl) ?_
  show VV X mX10_told rX10_told (pI_ post) 0 [(0, .inr (.inr (some this))), (1, .inl a1), (2, .inl a2)] [] M 0 0
  refine vv_aload_n (mi := mX10_told) (pc := 0) 0 dX10_told_0 rfl rfl ?_
  refine vv_iload_n (mi := mX10_told) (pc := 1) 1 dX10_told_1 rfl rfl ?_
  obtain ⟨ht1, h⟩ := h
  refine vv_callV (mi := mX10_told) (pc := 2) (rest := []) (As := [.inl a1]) (ctX10_callWith (X := X) h) dX10_told_2 rfl ht1 (Nat.le_of_ble_eq_true rfl) rfl mb_X10_callWith rfl ml_X10_167 im_X10_callWith se_X10_callWith ⟨(Nat.le_of_ble_eq_true rfl), (Nat.le_of_ble_eq_true rfl)⟩ ⟨(Nat.le_of_ble_eq_true rfl), (Nat.le_of_ble_eq_true rfl)⟩ (Nat.le_of_ble_eq_true rfl) rfl (kR_ (F := fun st M' => VV X mX10_told rX10_told (pI_ post) 5 [(0, .inr (.inr (some this))), (1, .inl a1), (2, .inl a2)] st M' 0 0) (fun r2 M3 h => ?_))
  refine vv_astore_n (mi := mX10_told) (pc := 5) [(3, .inr (.inr r2)), (0, .inr (.inr (some this))), (1, .inl a1), (2, .inl a2)] dX10_told_5 rfl (Nat.le_of_ble_eq_true rfl) rfl ?_
  refine vv_aload_n (mi := mX10_told) (pc := 6) 0 dX10_told_6 rfl rfl ?_
  refine vv_ifnull (mi := mX10_told) (pc := 7) 17 dX10_told_7 rfl (fun c4 => ?_) (fun aq5 c4 => ?_)
  · replace h := h.1 c4
    refine vv_iconst (mi := mX10_told) (pc := 17) (-1) dX10_told_17 rfl ?_
    exact vv_iret (mi := mX10_told) (pc := 18) dX10_told_18 rfl (Nat.le_of_ble_eq_true rfl) (Nat.le_of_ble_eq_true rfl) h
  · replace h := h.2 aq5 c4
    refine vv_aload_n (mi := mX10_told) (pc := 10) 0 dX10_told_10 rfl rfl ?_
    obtain ⟨ht6, h⟩ := h
    refine vv_getI (mi := mX10_told) (pc := 11) 0 0 c4 ht6 fl_X10_204 (Nat.le_of_ble_eq_true rfl) dX10_told_11 ?_
    refine vv_if_ne (mi := mX10_told) (pc := 14) 19 dX10_told_14 rfl (fun c7 => ?_) (fun c7 => ?_)
    · replace h := h.1 c7
      refine vv_iload_n (mi := mX10_told) (pc := 19) 3 dX10_told_19 rfl rfl ?_
      refine vv_tsw (mi := mX10_told) (pc := 20) 122 [80, 85, 90, 103, 108, 108, 108, 108, 115, 115, 115] dX10_told_20 rfl rfl rfl (fun j t c8 c8e => ?_) (fun c8 => ?_)
      · match j, c8, c8e with
        | 0, c8, c8e =>
          cases c8
          replace h := h.1 c8e
          refine vv_aload_n (mi := mX10_told) (pc := 80) 0 dX10_told_80 rfl rfl ?_
          refine vv_getI (mi := mX10_told) (pc := 81) 0 4 c4 ht6 fl_X10_185 (Nat.le_of_ble_eq_true rfl) dX10_told_81 ?_
          exact vv_iret (mi := mX10_told) (pc := 84) dX10_told_84 rfl (Nat.le_of_ble_eq_true rfl) (Nat.le_of_ble_eq_true rfl) h
        | 1, c8, c8e =>
          cases c8
          replace h := h.2.1 c8e
          refine vv_aload_n (mi := mX10_told) (pc := 85) 0 dX10_told_85 rfl rfl ?_
          refine vv_getI (mi := mX10_told) (pc := 86) 0 3 c4 ht6 fl_X10_198 (Nat.le_of_ble_eq_true rfl) dX10_told_86 ?_
          exact vv_iret (mi := mX10_told) (pc := 89) dX10_told_89 rfl (Nat.le_of_ble_eq_true rfl) (Nat.le_of_ble_eq_true rfl) h
        | 2, c8, c8e =>
          cases c8
          replace h := h.2.2.1 c8e
          refine vv_aload_n (mi := mX10_told) (pc := 90) 0 dX10_told_90 rfl rfl ?_
          refine vv_getI (mi := mX10_told) (pc := 91) 0 1 c4 ht6 fl_X10_200 (Nat.le_of_ble_eq_true rfl) dX10_told_91 ?_
          refine vv_if_eq (mi := mX10_told) (pc := 94) 101 dX10_told_94 rfl (fun c9 => ?_) (fun c9 => ?_)
          · replace h := h.1 c9
            refine vv_iconst (mi := mX10_told) (pc := 101) 0 dX10_told_101 rfl ?_
            exact vv_iret (mi := mX10_told) (pc := 102) dX10_told_102 rfl (Nat.le_of_ble_eq_true rfl) (Nat.le_of_ble_eq_true rfl) h
          · replace h := h.2 c9
            refine vv_iconst (mi := mX10_told) (pc := 97) 1 dX10_told_97 rfl ?_
            refine vv_goto (mi := mX10_told) (pc := 98) 102 dX10_told_98 rfl ?_
            exact vv_iret (mi := mX10_told) (pc := 102) dX10_told_102 rfl (Nat.le_of_ble_eq_true rfl) (Nat.le_of_ble_eq_true rfl) h
        | 3, c8, c8e =>
          cases c8
          replace h := h.2.2.2.1 c8e
          refine vv_aload_n (mi := mX10_told) (pc := 103) 0 dX10_told_103 rfl rfl ?_
          refine vv_getI (mi := mX10_told) (pc := 104) 0 2 c4 ht6 fl_X10_186 (Nat.le_of_ble_eq_true rfl) dX10_told_104 ?_
          exact vv_iret (mi := mX10_told) (pc := 107) dX10_told_107 rfl (Nat.le_of_ble_eq_true rfl) (Nat.le_of_ble_eq_true rfl) h
        | 4, c8, c8e =>
          cases c8
          replace h := h.2.2.2.2.1 c8e
          refine vv_aload_n (mi := mX10_told) (pc := 108) 1 dX10_told_108 rfl rfl ?_
          refine vv_aload_n (mi := mX10_told) (pc := 109) 0 dX10_told_109 rfl rfl ?_
          refine vv_iload_n (mi := mX10_told) (pc := 110) 3 dX10_told_110 rfl rfl ?_
          obtain ⟨ht10, h⟩ := h
          refine vv_callV (mi := mX10_told) (pc := 111) (rest := []) (As := [.inr (.inr r2), .inl a2]) (ctX10_tellOfLead (X := X) h) dX10_told_111 rfl ht10 (Nat.le_of_ble_eq_true rfl) rfl mb_X10_tellOfLead rfl ml_X10_207 im_X10_tellOfLead se_X10_tellOfLead ⟨(Nat.le_of_ble_eq_true rfl), (Nat.le_of_ble_eq_true rfl)⟩ ⟨(Nat.le_of_ble_eq_true rfl), (Nat.le_of_ble_eq_true rfl)⟩ (Nat.le_of_ble_eq_true rfl) rfl (kI_ (F := fun st M' => VV X mX10_told rX10_told (pI_ post) 114 [(3, .inr (.inr r2)), (0, .inr (.inr (some this))), (1, .inl a1), (2, .inl a2)] st M' 0 0) (fun r11 M12 h => ?_))
          exact vv_iret (mi := mX10_told) (pc := 114) dX10_told_114 rfl (Nat.le_of_ble_eq_true rfl) (Nat.le_of_ble_eq_true rfl) h
        | 5, c8, c8e =>
          cases c8
          replace h := h.2.2.2.2.2.1 c8e
          refine vv_aload_n (mi := mX10_told) (pc := 108) 1 dX10_told_108 rfl rfl ?_
          refine vv_aload_n (mi := mX10_told) (pc := 109) 0 dX10_told_109 rfl rfl ?_
          refine vv_iload_n (mi := mX10_told) (pc := 110) 3 dX10_told_110 rfl rfl ?_
          obtain ⟨ht13, h⟩ := h
          refine vv_callV (mi := mX10_told) (pc := 111) (rest := []) (As := [.inr (.inr r2), .inl a2]) (ctX10_tellOfLead (X := X) h) dX10_told_111 rfl ht13 (Nat.le_of_ble_eq_true rfl) rfl mb_X10_tellOfLead rfl ml_X10_207 im_X10_tellOfLead se_X10_tellOfLead ⟨(Nat.le_of_ble_eq_true rfl), (Nat.le_of_ble_eq_true rfl)⟩ ⟨(Nat.le_of_ble_eq_true rfl), (Nat.le_of_ble_eq_true rfl)⟩ (Nat.le_of_ble_eq_true rfl) rfl (kI_ (F := fun st M' => VV X mX10_told rX10_told (pI_ post) 114 [(3, .inr (.inr r2)), (0, .inr (.inr (some this))), (1, .inl a1), (2, .inl a2)] st M' 0 0) (fun r14 M15 h => ?_))
          exact vv_iret (mi := mX10_told) (pc := 114) dX10_told_114 rfl (Nat.le_of_ble_eq_true rfl) (Nat.le_of_ble_eq_true rfl) h
        | 6, c8, c8e =>
          cases c8
          replace h := h.2.2.2.2.2.2.1 c8e
          refine vv_aload_n (mi := mX10_told) (pc := 108) 1 dX10_told_108 rfl rfl ?_
          refine vv_aload_n (mi := mX10_told) (pc := 109) 0 dX10_told_109 rfl rfl ?_
          refine vv_iload_n (mi := mX10_told) (pc := 110) 3 dX10_told_110 rfl rfl ?_
          obtain ⟨ht16, h⟩ := h
          refine vv_callV (mi := mX10_told) (pc := 111) (rest := []) (As := [.inr (.inr r2), .inl a2]) (ctX10_tellOfLead (X := X) h) dX10_told_111 rfl ht16 (Nat.le_of_ble_eq_true rfl) rfl mb_X10_tellOfLead rfl ml_X10_207 im_X10_tellOfLead se_X10_tellOfLead ⟨(Nat.le_of_ble_eq_true rfl), (Nat.le_of_ble_eq_true rfl)⟩ ⟨(Nat.le_of_ble_eq_true rfl), (Nat.le_of_ble_eq_true rfl)⟩ (Nat.le_of_ble_eq_true rfl) rfl (kI_ (F := fun st M' => VV X mX10_told rX10_told (pI_ post) 114 [(3, .inr (.inr r2)), (0, .inr (.inr (some this))), (1, .inl a1), (2, .inl a2)] st M' 0 0) (fun r17 M18 h => ?_))
          exact vv_iret (mi := mX10_told) (pc := 114) dX10_told_114 rfl (Nat.le_of_ble_eq_true rfl) (Nat.le_of_ble_eq_true rfl) h
        | 7, c8, c8e =>
          cases c8
          replace h := h.2.2.2.2.2.2.2.1 c8e
          refine vv_aload_n (mi := mX10_told) (pc := 108) 1 dX10_told_108 rfl rfl ?_
          refine vv_aload_n (mi := mX10_told) (pc := 109) 0 dX10_told_109 rfl rfl ?_
          refine vv_iload_n (mi := mX10_told) (pc := 110) 3 dX10_told_110 rfl rfl ?_
          obtain ⟨ht19, h⟩ := h
          refine vv_callV (mi := mX10_told) (pc := 111) (rest := []) (As := [.inr (.inr r2), .inl a2]) (ctX10_tellOfLead (X := X) h) dX10_told_111 rfl ht19 (Nat.le_of_ble_eq_true rfl) rfl mb_X10_tellOfLead rfl ml_X10_207 im_X10_tellOfLead se_X10_tellOfLead ⟨(Nat.le_of_ble_eq_true rfl), (Nat.le_of_ble_eq_true rfl)⟩ ⟨(Nat.le_of_ble_eq_true rfl), (Nat.le_of_ble_eq_true rfl)⟩ (Nat.le_of_ble_eq_true rfl) rfl (kI_ (F := fun st M' => VV X mX10_told rX10_told (pI_ post) 114 [(3, .inr (.inr r2)), (0, .inr (.inr (some this))), (1, .inl a1), (2, .inl a2)] st M' 0 0) (fun r20 M21 h => ?_))
          exact vv_iret (mi := mX10_told) (pc := 114) dX10_told_114 rfl (Nat.le_of_ble_eq_true rfl) (Nat.le_of_ble_eq_true rfl) h
        | 8, c8, c8e =>
          cases c8
          replace h := h.2.2.2.2.2.2.2.2.1 c8e
          refine vv_aload_n (mi := mX10_told) (pc := 115) 1 dX10_told_115 rfl rfl ?_
          refine vv_aload_n (mi := mX10_told) (pc := 116) 0 dX10_told_116 rfl rfl ?_
          refine vv_iload_n (mi := mX10_told) (pc := 117) 3 dX10_told_117 rfl rfl ?_
          obtain ⟨ht22, h⟩ := h
          refine vv_callV (mi := mX10_told) (pc := 118) (rest := []) (As := [.inr (.inr r2), .inl a2]) (ctX10_tellOfRest (X := X) h) dX10_told_118 rfl ht22 (Nat.le_of_ble_eq_true rfl) rfl mb_X10_tellOfRest rfl ml_X10_211 im_X10_tellOfRest se_X10_tellOfRest ⟨(Nat.le_of_ble_eq_true rfl), (Nat.le_of_ble_eq_true rfl)⟩ ⟨(Nat.le_of_ble_eq_true rfl), (Nat.le_of_ble_eq_true rfl)⟩ (Nat.le_of_ble_eq_true rfl) rfl (kI_ (F := fun st M' => VV X mX10_told rX10_told (pI_ post) 121 [(3, .inr (.inr r2)), (0, .inr (.inr (some this))), (1, .inl a1), (2, .inl a2)] st M' 0 0) (fun r23 M24 h => ?_))
          exact vv_iret (mi := mX10_told) (pc := 121) dX10_told_121 rfl (Nat.le_of_ble_eq_true rfl) (Nat.le_of_ble_eq_true rfl) h
        | 9, c8, c8e =>
          cases c8
          replace h := h.2.2.2.2.2.2.2.2.2.1 c8e
          refine vv_aload_n (mi := mX10_told) (pc := 115) 1 dX10_told_115 rfl rfl ?_
          refine vv_aload_n (mi := mX10_told) (pc := 116) 0 dX10_told_116 rfl rfl ?_
          refine vv_iload_n (mi := mX10_told) (pc := 117) 3 dX10_told_117 rfl rfl ?_
          obtain ⟨ht25, h⟩ := h
          refine vv_callV (mi := mX10_told) (pc := 118) (rest := []) (As := [.inr (.inr r2), .inl a2]) (ctX10_tellOfRest (X := X) h) dX10_told_118 rfl ht25 (Nat.le_of_ble_eq_true rfl) rfl mb_X10_tellOfRest rfl ml_X10_211 im_X10_tellOfRest se_X10_tellOfRest ⟨(Nat.le_of_ble_eq_true rfl), (Nat.le_of_ble_eq_true rfl)⟩ ⟨(Nat.le_of_ble_eq_true rfl), (Nat.le_of_ble_eq_true rfl)⟩ (Nat.le_of_ble_eq_true rfl) rfl (kI_ (F := fun st M' => VV X mX10_told rX10_told (pI_ post) 121 [(3, .inr (.inr r2)), (0, .inr (.inr (some this))), (1, .inl a1), (2, .inl a2)] st M' 0 0) (fun r26 M27 h => ?_))
          exact vv_iret (mi := mX10_told) (pc := 121) dX10_told_121 rfl (Nat.le_of_ble_eq_true rfl) (Nat.le_of_ble_eq_true rfl) h
        | 10, c8, c8e =>
          cases c8
          replace h := h.2.2.2.2.2.2.2.2.2.2.1 c8e
          refine vv_aload_n (mi := mX10_told) (pc := 115) 1 dX10_told_115 rfl rfl ?_
          refine vv_aload_n (mi := mX10_told) (pc := 116) 0 dX10_told_116 rfl rfl ?_
          refine vv_iload_n (mi := mX10_told) (pc := 117) 3 dX10_told_117 rfl rfl ?_
          obtain ⟨ht28, h⟩ := h
          refine vv_callV (mi := mX10_told) (pc := 118) (rest := []) (As := [.inr (.inr r2), .inl a2]) (ctX10_tellOfRest (X := X) h) dX10_told_118 rfl ht28 (Nat.le_of_ble_eq_true rfl) rfl mb_X10_tellOfRest rfl ml_X10_211 im_X10_tellOfRest se_X10_tellOfRest ⟨(Nat.le_of_ble_eq_true rfl), (Nat.le_of_ble_eq_true rfl)⟩ ⟨(Nat.le_of_ble_eq_true rfl), (Nat.le_of_ble_eq_true rfl)⟩ (Nat.le_of_ble_eq_true rfl) rfl (kI_ (F := fun st M' => VV X mX10_told rX10_told (pI_ post) 121 [(3, .inr (.inr r2)), (0, .inr (.inr (some this))), (1, .inl a1), (2, .inl a2)] st M' 0 0) (fun r29 M30 h => ?_))
          exact vv_iret (mi := mX10_told) (pc := 121) dX10_told_121 rfl (Nat.le_of_ble_eq_true rfl) (Nat.le_of_ble_eq_true rfl) h
        | (j + 11), c8, _ => exact absurd c8 (by simp)
      · replace h := h.2.2.2.2.2.2.2.2.2.2.2 c8
        refine vv_iconst (mi := mX10_told) (pc := 122) (-1) dX10_told_122 rfl ?_
        exact vv_iret (mi := mX10_told) (pc := 123) dX10_told_123 rfl (Nat.le_of_ble_eq_true rfl) (Nat.le_of_ble_eq_true rfl) h
    · replace h := h.2 c7
      refine vv_iconst (mi := mX10_told) (pc := 17) (-1) dX10_told_17 rfl ?_
      exact vv_iret (mi := mX10_told) (pc := 18) dX10_told_18 rfl (Nat.le_of_ble_eq_true rfl) (Nat.le_of_ble_eq_true rfl) h
set_option maxHeartbeats 4000000 in
set_option maxRecDepth 100000 in
theorem ctX10_leads {X : Cx_} {this : Nat} {a1 : Int64} {a2 : Int32} {M : Mm} {post : Int32 → Mm → Prop} (h : PX10_leads this a1 a2 M post) : CT X mX10_leads rX10_leads [.inr (.inr (some this)), .inr (.inl a1), .inl a2] M (pI_ post) := by
  unfold PX10_leads at h
  refine CT.of (by decide +kernel) (Nat.le_of_ble_eq_true rfl) ?_
  show VV X mX10_leads rX10_leads (pI_ post) 0 [(0, .inr (.inr (some this))), (1, .inr (.inl a1)), (3, .inl a2)] [] M 0 0
  refine vv_lload_n (mi := mX10_leads) (pc := 0) 1 dX10_leads_0 rfl rfl ?_
  refine vv_callS (mi := mX10_leads) (pc := 1) (rest := []) (As := [.inr (.inl a1)]) (ctX10_placesOf (X := X) h) dX10_leads_1 mb_X10_placesOf rfl ml_X10_60 sc_X10_placesOf ⟨(Nat.le_of_ble_eq_true rfl), (Nat.le_of_ble_eq_true rfl)⟩ ⟨(Nat.le_of_ble_eq_true rfl), (Nat.le_of_ble_eq_true rfl)⟩ (Nat.le_of_ble_eq_true rfl) rfl (kI_ (F := fun st M' => VV X mX10_leads rX10_leads (pI_ post) 4 [(0, .inr (.inr (some this))), (1, .inr (.inl a1)), (3, .inl a2)] st M' 0 0) (fun r1 M2 h => ?_))
  refine vv_istore (mi := mX10_leads) (pc := 4) [(4, .inl r1), (0, .inr (.inr (some this))), (1, .inr (.inl a1)), (3, .inl a2)] dX10_leads_4 (Nat.le_of_ble_eq_true rfl) rfl ?_
  refine vv_iload (mi := mX10_leads) (pc := 6) 0 dX10_leads_6 rfl ?_
  refine vv_iconst (mi := mX10_leads) (pc := 8) 1 dX10_leads_8 rfl ?_
  refine vv_bipush (mi := mX10_leads) (pc := 9) 15 dX10_leads_9 rfl ?_
  refine vv_callS (mi := mX10_leads) (pc := 11) (rest := []) (As := [.inl r1, .inl 1, .inl 15]) (ctX10_isWithin (X := X) h) dX10_leads_11 mb_X10_isWithin rfl ml_X10_64 sc_X10_isWithin ⟨(Nat.le_of_ble_eq_true rfl), (Nat.le_of_ble_eq_true rfl)⟩ ⟨(Nat.le_of_ble_eq_true rfl), (Nat.le_of_ble_eq_true rfl)⟩ (Nat.le_of_ble_eq_true rfl) rfl (kI_ (F := fun st M' => VV X mX10_leads rX10_leads (pI_ post) 14 [(4, .inl r1), (0, .inr (.inr (some this))), (1, .inr (.inl a1)), (3, .inl a2)] st M' 0 0) (fun r3 M4 h => ?_))
  refine vv_if_eq (mi := mX10_leads) (pc := 14) 24 dX10_leads_14 rfl (fun c5 => ?_) (fun c5 => ?_)
  · replace h := h.1 c5
    refine vv_bipush (mi := mX10_leads) (pc := 24) (-2) dX10_leads_24 rfl ?_
    exact vv_iret (mi := mX10_leads) (pc := 26) dX10_leads_26 rfl (Nat.le_of_ble_eq_true rfl) (Nat.le_of_ble_eq_true rfl) h
  · replace h := h.2 c5
    refine vv_iload_n (mi := mX10_leads) (pc := 17) 3 dX10_leads_17 rfl rfl ?_
    refine vv_callS (mi := mX10_leads) (pc := 18) (rest := []) (As := [.inl a2]) (ctX10_isDay (X := X) h) dX10_leads_18 mb_X10_isDay rfl ml_X10_115 sc_X10_isDay ⟨(Nat.le_of_ble_eq_true rfl), (Nat.le_of_ble_eq_true rfl)⟩ ⟨(Nat.le_of_ble_eq_true rfl), (Nat.le_of_ble_eq_true rfl)⟩ (Nat.le_of_ble_eq_true rfl) rfl (kI_ (F := fun st M' => VV X mX10_leads rX10_leads (pI_ post) 21 [(4, .inl r1), (0, .inr (.inr (some this))), (1, .inr (.inl a1)), (3, .inl a2)] st M' 0 0) (fun r6 M7 h => ?_))
    refine vv_if_ne (mi := mX10_leads) (pc := 21) 27 dX10_leads_21 rfl (fun c8 => ?_) (fun c8 => ?_)
    · replace h := h.1 c8
      refine vv_aload_n (mi := mX10_leads) (pc := 27) 1 dX10_leads_27 rfl rfl ?_
      obtain ⟨ht9, h⟩ := h
      refine vv_getR (mi := mX10_leads) (pc := 28) 10 0 rfl ht9 fl_X10_10 (Nat.le_of_ble_eq_true rfl) dX10_leads_28 ?_
      refine vv_lload_n (mi := mX10_leads) (pc := 31) 2 dX10_leads_31 rfl rfl ?_
      refine vv_iload (mi := mX10_leads) (pc := 32) 0 dX10_leads_32 rfl ?_
      refine vv_iload_n (mi := mX10_leads) (pc := 34) 3 dX10_leads_34 rfl rfl ?_
      obtain ⟨aq10, hs11, h⟩ := h
      obtain ⟨ht12, h⟩ := h
      refine vv_callV (mi := mX10_leads) (pc := 35) (rest := []) (As := [.inr (.inl a1), .inl r1, .inl a2]) (ctX6_leadOf (X := X) h) dX10_leads_35 hs11 ht12 (Nat.le_of_ble_eq_true rfl) rfl mb_X6_leadOf rfl ml_X10_214 im_X6_leadOf se_X6_leadOf ⟨(Nat.le_of_ble_eq_true rfl), (Nat.le_of_ble_eq_true rfl)⟩ ⟨(Nat.le_of_ble_eq_true rfl), (Nat.le_of_ble_eq_true rfl)⟩ (Nat.le_of_ble_eq_true rfl) rfl (kR_ (F := fun st M' => VV X mX10_leads rX10_leads (pI_ post) 38 [(4, .inl r1), (0, .inr (.inr (some this))), (1, .inr (.inl a1)), (3, .inl a2)] st M' 0 0) (fun r13 M14 h => ?_))
      refine vv_astore (mi := mX10_leads) (pc := 38) [(5, .inr (.inr r13)), (4, .inl r1), (0, .inr (.inr (some this))), (1, .inr (.inl a1)), (3, .inl a2)] dX10_leads_38 (Nat.le_of_ble_eq_true rfl) rfl ?_
      refine vv_aload (mi := mX10_leads) (pc := 40) 0 dX10_leads_40 rfl ?_
      refine vv_ifnonnull (mi := mX10_leads) (pc := 42) 49 dX10_leads_42 rfl (fun aq16 c15 => ?_) (fun c15 => ?_)
      · replace h := h.2 aq16 c15
        refine vv_aload_n (mi := mX10_leads) (pc := 49) 2 dX10_leads_49 rfl rfl ?_
        obtain ⟨ht17, h⟩ := h
        refine vv_getR (mi := mX10_leads) (pc := 50) 10 1 rfl ht17 fl_X10_19 (Nat.le_of_ble_eq_true rfl) dX10_leads_50 ?_
        refine vv_aload (mi := mX10_leads) (pc := 53) 0 dX10_leads_53 rfl ?_
        refine vv_lload_n (mi := mX10_leads) (pc := 55) 3 dX10_leads_55 rfl rfl ?_
        refine vv_iload (mi := mX10_leads) (pc := 56) 1 dX10_leads_56 rfl ?_
        refine vv_iload_n (mi := mX10_leads) (pc := 58) 4 dX10_leads_58 rfl rfl ?_
        obtain ⟨aq18, hs19, h⟩ := h
        obtain ⟨ht20, h⟩ := h
        refine vv_callV (mi := mX10_leads) (pc := 59) (rest := []) (As := [.inr (.inr r13), .inr (.inl a1), .inl r1, .inl a2]) (ctX4_findBy (X := X) h) dX10_leads_59 hs19 ht20 (Nat.le_of_ble_eq_true rfl) rfl mb_X4_findBy rfl ml_X10_218 im_X4_findBy se_X4_findBy ⟨(Nat.le_of_ble_eq_true rfl), (Nat.le_of_ble_eq_true rfl)⟩ ⟨(Nat.le_of_ble_eq_true rfl), (Nat.le_of_ble_eq_true rfl)⟩ (Nat.le_of_ble_eq_true rfl) rfl (kI_ (F := fun st M' => VV X mX10_leads rX10_leads (pI_ post) 62 [(5, .inr (.inr r13)), (4, .inl r1), (0, .inr (.inr (some this))), (1, .inr (.inl a1)), (3, .inl a2)] st M' 0 0) (fun r21 M22 h => ?_))
        exact vv_iret (mi := mX10_leads) (pc := 62) dX10_leads_62 rfl (Nat.le_of_ble_eq_true rfl) (Nat.le_of_ble_eq_true rfl) h
      · replace h := h.1 c15
        refine vv_iconst (mi := mX10_leads) (pc := 45) (-1) dX10_leads_45 rfl ?_
        refine vv_goto (mi := mX10_leads) (pc := 46) 62 dX10_leads_46 rfl ?_
        exact vv_iret (mi := mX10_leads) (pc := 62) dX10_leads_62 rfl (Nat.le_of_ble_eq_true rfl) (Nat.le_of_ble_eq_true rfl) h
    · replace h := h.2 c8
      refine vv_bipush (mi := mX10_leads) (pc := 24) (-2) dX10_leads_24 rfl ?_
      exact vv_iret (mi := mX10_leads) (pc := 26) dX10_leads_26 rfl (Nat.le_of_ble_eq_true rfl) (Nat.le_of_ble_eq_true rfl) h
set_option maxHeartbeats 4000000 in
set_option maxRecDepth 100000 in
theorem ctX10_demand {X : Cx_} {this : Nat} {a1 : Int32} {a2 : Int32} {a3 : Int32} {M : Mm} {post : Int32 → Mm → Prop} (h : PX10_demand this a1 a2 a3 M post) : CT X mX10_demand rX10_demand [.inr (.inr (some this)), .inl a1, .inl a2, .inl a3] M (pI_ post) := by
  unfold PX10_demand at h
  refine CT.of (by decide +kernel) (Nat.le_of_ble_eq_true rfl) ?_
  show VV X mX10_demand rX10_demand (pI_ post) 0 [(0, .inr (.inr (some this))), (1, .inl a1), (2, .inl a2), (3, .inl a3)] [] M 0 0
  refine vv_aload_n (mi := mX10_demand) (pc := 0) 0 dX10_demand_0 rfl rfl ?_
  obtain ⟨ht1, h⟩ := h
  refine vv_getR (mi := mX10_demand) (pc := 1) 10 3 rfl ht1 fl_X10_35 (Nat.le_of_ble_eq_true rfl) dX10_demand_1 ?_
  refine vv_iload_n (mi := mX10_demand) (pc := 4) 1 dX10_demand_4 rfl rfl ?_
  obtain ⟨aq2, hs3, h⟩ := h
  obtain ⟨ht4, h⟩ := h
  refine vv_callV (mi := mX10_demand) (pc := 5) (rest := []) (As := [.inl a1]) (ctX9_demandOf (X := X) h) dX10_demand_5 hs3 ht4 (Nat.le_of_ble_eq_true rfl) rfl mb_X9_demandOf rfl ml_X10_222 im_X9_demandOf se_X9_demandOf ⟨(Nat.le_of_ble_eq_true rfl), (Nat.le_of_ble_eq_true rfl)⟩ ⟨(Nat.le_of_ble_eq_true rfl), (Nat.le_of_ble_eq_true rfl)⟩ (Nat.le_of_ble_eq_true rfl) rfl (kR_ (F := fun st M' => VV X mX10_demand rX10_demand (pI_ post) 8 [(0, .inr (.inr (some this))), (1, .inl a1), (2, .inl a2), (3, .inl a3)] st M' 0 0) (fun r5 M6 h => ?_))
  refine vv_astore (mi := mX10_demand) (pc := 8) [(4, .inr (.inr r5)), (0, .inr (.inr (some this))), (1, .inl a1), (2, .inl a2), (3, .inl a3)] dX10_demand_8 (Nat.le_of_ble_eq_true rfl) rfl ?_
  refine vv_aload (mi := mX10_demand) (pc := 10) 0 dX10_demand_10 rfl ?_
  refine vv_ifnull (mi := mX10_demand) (pc := 12) 35 dX10_demand_12 rfl (fun c7 => ?_) (fun aq8 c7 => ?_)
  · replace h := h.1 c7
    refine vv_bipush (mi := mX10_demand) (pc := 35) (-2) dX10_demand_35 rfl ?_
    exact vv_iret (mi := mX10_demand) (pc := 37) dX10_demand_37 rfl (Nat.le_of_ble_eq_true rfl) (Nat.le_of_ble_eq_true rfl) h
  · replace h := h.2 aq8 c7
    refine vv_iload_n (mi := mX10_demand) (pc := 15) 3 dX10_demand_15 rfl rfl ?_
    refine vv_iconst (mi := mX10_demand) (pc := 16) 0 dX10_demand_16 rfl ?_
    refine vv_ldc (mi := mX10_demand) (pc := 17) 1000000000 dX10_demand_17 ki_X10_226 ?_
    refine vv_callS (mi := mX10_demand) (pc := 19) (rest := []) (As := [.inl a2, .inl 0, .inl 1000000000]) (ctX10_isWithin (X := X) h) dX10_demand_19 mb_X10_isWithin rfl ml_X10_64 sc_X10_isWithin ⟨(Nat.le_of_ble_eq_true rfl), (Nat.le_of_ble_eq_true rfl)⟩ ⟨(Nat.le_of_ble_eq_true rfl), (Nat.le_of_ble_eq_true rfl)⟩ (Nat.le_of_ble_eq_true rfl) rfl (kI_ (F := fun st M' => VV X mX10_demand rX10_demand (pI_ post) 22 [(4, .inr (.inr r5)), (0, .inr (.inr (some this))), (1, .inl a1), (2, .inl a2), (3, .inl a3)] st M' 0 0) (fun r9 M10 h => ?_))
    refine vv_if_eq (mi := mX10_demand) (pc := 22) 35 dX10_demand_22 rfl (fun c11 => ?_) (fun c11 => ?_)
    · replace h := h.1 c11
      refine vv_bipush (mi := mX10_demand) (pc := 35) (-2) dX10_demand_35 rfl ?_
      exact vv_iret (mi := mX10_demand) (pc := 37) dX10_demand_37 rfl (Nat.le_of_ble_eq_true rfl) (Nat.le_of_ble_eq_true rfl) h
    · replace h := h.2 c11
      refine vv_iload_n (mi := mX10_demand) (pc := 25) 4 dX10_demand_25 rfl rfl ?_
      refine vv_iconst (mi := mX10_demand) (pc := 26) 0 dX10_demand_26 rfl ?_
      refine vv_ldc (mi := mX10_demand) (pc := 27) 1000000 dX10_demand_27 ki_X10_227 ?_
      refine vv_callS (mi := mX10_demand) (pc := 29) (rest := []) (As := [.inl a3, .inl 0, .inl 1000000]) (ctX10_isWithin (X := X) h) dX10_demand_29 mb_X10_isWithin rfl ml_X10_64 sc_X10_isWithin ⟨(Nat.le_of_ble_eq_true rfl), (Nat.le_of_ble_eq_true rfl)⟩ ⟨(Nat.le_of_ble_eq_true rfl), (Nat.le_of_ble_eq_true rfl)⟩ (Nat.le_of_ble_eq_true rfl) rfl (kI_ (F := fun st M' => VV X mX10_demand rX10_demand (pI_ post) 32 [(4, .inr (.inr r5)), (0, .inr (.inr (some this))), (1, .inl a1), (2, .inl a2), (3, .inl a3)] st M' 0 0) (fun r12 M13 h => ?_))
      refine vv_if_ne (mi := mX10_demand) (pc := 32) 38 dX10_demand_32 rfl (fun c14 => ?_) (fun c14 => ?_)
      · replace h := h.1 c14
        refine vv_aload (mi := mX10_demand) (pc := 38) 0 dX10_demand_38 rfl ?_
        obtain ⟨ht15, h⟩ := h
        refine vv_getI (mi := mX10_demand) (pc := 40) 1 1 c7 ht15 fl_X10_228 (Nat.le_of_ble_eq_true rfl) dX10_demand_40 ?_
        obtain ⟨v16, ev16⟩ : ∃ z : Int32, z = (ddI M13 aq8 1) := ⟨_, rfl⟩
        refine vv_namI ev16 ?_
        replace h := h _ ev16
        refine vv_istore (mi := mX10_demand) (pc := 43) [(5, .inl v16), (4, .inr (.inr r5)), (0, .inr (.inr (some this))), (1, .inl a1), (2, .inl a2), (3, .inl a3)] dX10_demand_43 (Nat.le_of_ble_eq_true rfl) rfl ?_
        refine vv_aload (mi := mX10_demand) (pc := 45) 1 dX10_demand_45 rfl ?_
        refine vv_iload_n (mi := mX10_demand) (pc := 47) 4 dX10_demand_47 rfl rfl ?_
        obtain ⟨M17, eM17⟩ : ∃ z : Mm, z = suI M13 aq8 1 a2 := ⟨_, rfl⟩
        replace h := h _ eM17
        refine vv_putI (mi := mX10_demand) (pc := 48) 1 1 c7 ht15 fq_X10_228 (fun q => by cases q) rfl (Nat.le_of_ble_eq_true rfl) dX10_demand_48 eM17 ?_
        refine vv_aload (mi := mX10_demand) (pc := 51) 1 dX10_demand_51 rfl ?_
        refine vv_iload_n (mi := mX10_demand) (pc := 53) 5 dX10_demand_53 rfl rfl ?_
        obtain ⟨M18, eM18⟩ : ∃ z : Mm, z = suI M17 aq8 2 a3 := ⟨_, rfl⟩
        replace h := h _ eM18
        refine vv_putI (mi := mX10_demand) (pc := 54) 1 2 c7 (tgI_ eM17 ht15) fq_X10_233 (fun q => by cases q) rfl (Nat.le_of_ble_eq_true rfl) dX10_demand_54 eM18 ?_
        refine vv_iload (mi := mX10_demand) (pc := 57) 0 dX10_demand_57 rfl ?_
        exact vv_iret (mi := mX10_demand) (pc := 59) dX10_demand_59 rfl (Nat.le_of_ble_eq_true rfl) (Nat.le_of_ble_eq_true rfl) h
      · replace h := h.2 c14
        refine vv_bipush (mi := mX10_demand) (pc := 35) (-2) dX10_demand_35 rfl ?_
        exact vv_iret (mi := mX10_demand) (pc := 37) dX10_demand_37 rfl (Nat.le_of_ble_eq_true rfl) (Nat.le_of_ble_eq_true rfl) h
set_option maxHeartbeats 4000000 in
set_option maxRecDepth 100000 in
theorem ctX10_room {X : Cx_} {this : Nat} {a1 : Int32} {a2 : Int32} {M : Mm} {post : Int64 → Mm → Prop} (h : PX10_room this a1 a2 M post) : CT X mX10_room rX10_room [.inr (.inr (some this)), .inl a1, .inl a2] M (pL_ post) := by
  unfold PX10_room at h
  refine CT.of (by decide +kernel) (Nat.le_of_ble_eq_true rfl) ?_
  show VV X mX10_room rX10_room (pL_ post) 0 [(0, .inr (.inr (some this))), (1, .inl a1), (2, .inl a2)] [] M 0 0
  refine vv_iload_n (mi := mX10_room) (pc := 0) 1 dX10_room_0 rfl rfl ?_
  refine vv_iconst (mi := mX10_room) (pc := 1) 0 dX10_room_1 rfl ?_
  refine vv_bipush (mi := mX10_room) (pc := 2) 15 dX10_room_2 rfl ?_
  refine vv_callS (mi := mX10_room) (pc := 4) (rest := []) (As := [.inl a1, .inl 0, .inl 15]) (ctX10_isWithin (X := X) h) dX10_room_4 mb_X10_isWithin rfl ml_X10_64 sc_X10_isWithin ⟨(Nat.le_of_ble_eq_true rfl), (Nat.le_of_ble_eq_true rfl)⟩ ⟨(Nat.le_of_ble_eq_true rfl), (Nat.le_of_ble_eq_true rfl)⟩ (Nat.le_of_ble_eq_true rfl) rfl (kI_ (F := fun st M' => VV X mX10_room rX10_room (pL_ post) 7 [(0, .inr (.inr (some this))), (1, .inl a1), (2, .inl a2)] st M' 0 0) (fun r1 M2 h => ?_))
  refine vv_if_eq (mi := mX10_room) (pc := 7) 17 dX10_room_7 rfl (fun c3 => ?_) (fun c3 => ?_)
  · replace h := h.1 c3
    refine vv_ldc2 (mi := mX10_room) (pc := 17) (-2) dX10_room_17 kl_X10_236 ?_
    exact vv_lret (mi := mX10_room) (pc := 20) dX10_room_20 rfl (Nat.le_of_ble_eq_true rfl) (Nat.le_of_ble_eq_true rfl) h
  · replace h := h.2 c3
    refine vv_iload_n (mi := mX10_room) (pc := 10) 2 dX10_room_10 rfl rfl ?_
    refine vv_callS (mi := mX10_room) (pc := 11) (rest := []) (As := [.inl a2]) (ctX10_isDay (X := X) h) dX10_room_11 mb_X10_isDay rfl ml_X10_115 sc_X10_isDay ⟨(Nat.le_of_ble_eq_true rfl), (Nat.le_of_ble_eq_true rfl)⟩ ⟨(Nat.le_of_ble_eq_true rfl), (Nat.le_of_ble_eq_true rfl)⟩ (Nat.le_of_ble_eq_true rfl) rfl (kI_ (F := fun st M' => VV X mX10_room rX10_room (pL_ post) 14 [(0, .inr (.inr (some this))), (1, .inl a1), (2, .inl a2)] st M' 0 0) (fun r4 M5 h => ?_))
    refine vv_if_ne (mi := mX10_room) (pc := 14) 21 dX10_room_14 rfl (fun c6 => ?_) (fun c6 => ?_)
    · replace h := h.1 c6
      refine vv_aload_n (mi := mX10_room) (pc := 21) 0 dX10_room_21 rfl rfl ?_
      obtain ⟨ht7, h⟩ := h
      refine vv_getR (mi := mX10_room) (pc := 22) 10 0 rfl ht7 fl_X10_10 (Nat.le_of_ble_eq_true rfl) dX10_room_22 ?_
      refine vv_iload_n (mi := mX10_room) (pc := 25) 1 dX10_room_25 rfl rfl ?_
      refine vv_iload_n (mi := mX10_room) (pc := 26) 2 dX10_room_26 rfl rfl ?_
      obtain ⟨aq8, hs9, h⟩ := h
      obtain ⟨ht10, h⟩ := h
      refine vv_callV (mi := mX10_room) (pc := 27) (rest := []) (As := [.inl a1, .inl a2]) (ctX6_roomOf (X := X) h) dX10_room_27 hs9 ht10 (Nat.le_of_ble_eq_true rfl) rfl mb_X6_roomOf rfl ml_X10_238 im_X6_roomOf se_X6_roomOf ⟨(Nat.le_of_ble_eq_true rfl), (Nat.le_of_ble_eq_true rfl)⟩ ⟨(Nat.le_of_ble_eq_true rfl), (Nat.le_of_ble_eq_true rfl)⟩ (Nat.le_of_ble_eq_true rfl) rfl (kL_ (F := fun st M' => VV X mX10_room rX10_room (pL_ post) 30 [(0, .inr (.inr (some this))), (1, .inl a1), (2, .inl a2)] st M' 0 0) (fun r11 M12 h => ?_))
      exact vv_lret (mi := mX10_room) (pc := 30) dX10_room_30 rfl (Nat.le_of_ble_eq_true rfl) (Nat.le_of_ble_eq_true rfl) h
    · replace h := h.2 c6
      refine vv_ldc2 (mi := mX10_room) (pc := 17) (-2) dX10_room_17 kl_X10_236 ?_
      exact vv_lret (mi := mX10_room) (pc := 20) dX10_room_20 rfl (Nat.le_of_ble_eq_true rfl) (Nat.le_of_ble_eq_true rfl) h
set_option maxHeartbeats 4000000 in
set_option maxRecDepth 100000 in
theorem ctX10_shortage {X : Cx_} {this : Nat} {a1 : Int32} {M : Mm} {post : Int32 → Mm → Prop} (h : PX10_shortage this a1 M post) : CT X mX10_shortage rX10_shortage [.inr (.inr (some this)), .inl a1] M (pI_ post) := by
  unfold PX10_shortage at h
  refine CT.of (by decide +kernel) (Nat.le_of_ble_eq_true rfl) ?_
  show VV X mX10_shortage rX10_shortage (pI_ post) 0 [(0, .inr (.inr (some this))), (1, .inl a1)] [] M 0 0
  refine vv_aload_n (mi := mX10_shortage) (pc := 0) 0 dX10_shortage_0 rfl rfl ?_
  obtain ⟨ht1, h⟩ := h
  refine vv_getR (mi := mX10_shortage) (pc := 1) 10 3 rfl ht1 fl_X10_35 (Nat.le_of_ble_eq_true rfl) dX10_shortage_1 ?_
  refine vv_iload_n (mi := mX10_shortage) (pc := 4) 1 dX10_shortage_4 rfl rfl ?_
  obtain ⟨aq2, hs3, h⟩ := h
  obtain ⟨ht4, h⟩ := h
  refine vv_callV (mi := mX10_shortage) (pc := 5) (rest := []) (As := [.inl a1]) (ctX9_demandOf (X := X) h) dX10_shortage_5 hs3 ht4 (Nat.le_of_ble_eq_true rfl) rfl mb_X9_demandOf rfl ml_X10_222 im_X9_demandOf se_X9_demandOf ⟨(Nat.le_of_ble_eq_true rfl), (Nat.le_of_ble_eq_true rfl)⟩ ⟨(Nat.le_of_ble_eq_true rfl), (Nat.le_of_ble_eq_true rfl)⟩ (Nat.le_of_ble_eq_true rfl) rfl (kR_ (F := fun st M' => VV X mX10_shortage rX10_shortage (pI_ post) 8 [(0, .inr (.inr (some this))), (1, .inl a1)] st M' 0 0) (fun r5 M6 h => ?_))
  refine vv_astore_n (mi := mX10_shortage) (pc := 8) [(2, .inr (.inr r5)), (0, .inr (.inr (some this))), (1, .inl a1)] dX10_shortage_8 rfl (Nat.le_of_ble_eq_true rfl) rfl ?_
  refine vv_aload_n (mi := mX10_shortage) (pc := 9) 0 dX10_shortage_9 rfl rfl ?_
  refine vv_ifnonnull (mi := mX10_shortage) (pc := 10) 18 dX10_shortage_10 rfl (fun aq8 c7 => ?_) (fun c7 => ?_)
  · replace h := h.2 aq8 c7
    refine vv_aload_n (mi := mX10_shortage) (pc := 18) 1 dX10_shortage_18 rfl rfl ?_
    obtain ⟨ht9, h⟩ := h
    refine vv_getR (mi := mX10_shortage) (pc := 19) 10 3 rfl ht9 fl_X10_35 (Nat.le_of_ble_eq_true rfl) dX10_shortage_19 ?_
    refine vv_aload_n (mi := mX10_shortage) (pc := 22) 0 dX10_shortage_22 rfl rfl ?_
    refine vv_aload_n (mi := mX10_shortage) (pc := 23) 1 dX10_shortage_23 rfl rfl ?_
    refine vv_getI (mi := mX10_shortage) (pc := 24) 10 4 rfl ht9 fl_X10_39 (Nat.le_of_ble_eq_true rfl) dX10_shortage_24 ?_
    refine vv_bipush (mi := mX10_shortage) (pc := 27) 7 dX10_shortage_27 rfl ?_
    refine vv_idiv (mi := mX10_shortage) (pc := 29) nzI_7 dX10_shortage_29 ?_
    obtain ⟨aq10, hs11, h⟩ := h
    obtain ⟨ht12, h⟩ := h
    refine vv_callV (mi := mX10_shortage) (pc := 30) (rest := []) (As := [.inr (.inr r5), .inl ((ddI M6 this 4) / 7)]) (ctX9_firstShort (X := X) h) dX10_shortage_30 hs11 ht12 (Nat.le_of_ble_eq_true rfl) rfl mb_X9_firstShort rfl ml_X10_242 im_X9_firstShort se_X9_firstShort ⟨(Nat.le_of_ble_eq_true rfl), (Nat.le_of_ble_eq_true rfl)⟩ ⟨(Nat.le_of_ble_eq_true rfl), (Nat.le_of_ble_eq_true rfl)⟩ (Nat.le_of_ble_eq_true rfl) rfl (kI_ (F := fun st M' => VV X mX10_shortage rX10_shortage (pI_ post) 33 [(2, .inr (.inr r5)), (0, .inr (.inr (some this))), (1, .inl a1)] st M' 0 0) (fun r13 M14 h => ?_))
    exact vv_iret (mi := mX10_shortage) (pc := 33) dX10_shortage_33 rfl (Nat.le_of_ble_eq_true rfl) (Nat.le_of_ble_eq_true rfl) h
  · replace h := h.1 c7
    refine vv_bipush (mi := mX10_shortage) (pc := 13) (-2) dX10_shortage_13 rfl ?_
    refine vv_goto (mi := mX10_shortage) (pc := 15) 33 dX10_shortage_15 rfl ?_
    exact vv_iret (mi := mX10_shortage) (pc := 33) dX10_shortage_33 rfl (Nat.le_of_ble_eq_true rfl) (Nat.le_of_ble_eq_true rfl) h
set_option maxHeartbeats 4000000 in
set_option maxRecDepth 100000 in
theorem ctX10_mightCome {X : Cx_} {this : Nat} {a1 : Int32} {a2 : Int32} {a3 : Int32} {a4 : Int32} {a5 : Int32} {a6 : Int32} {M : Mm} {post : Int32 → Mm → Prop} (h : PX10_mightCome this a1 a2 a3 a4 a5 a6 M post) : CT X mX10_mightCome rX10_mightCome [.inr (.inr (some this)), .inl a1, .inl a2, .inl a3, .inl a4, .inl a5, .inl a6] M (pI_ post) := by
  unfold PX10_mightCome at h
  refine CT.of (by decide +kernel) (Nat.le_of_ble_eq_true rfl) ?_
  show VV X mX10_mightCome rX10_mightCome (pI_ post) 0 [(0, .inr (.inr (some this))), (1, .inl a1), (2, .inl a2), (3, .inl a3), (4, .inl a4), (5, .inl a5), (6, .inl a6)] [] M 0 0
  refine vv_iload_n (mi := mX10_mightCome) (pc := 0) 1 dX10_mightCome_0 rfl rfl ?_
  refine vv_iload_n (mi := mX10_mightCome) (pc := 1) 2 dX10_mightCome_1 rfl rfl ?_
  refine vv_iload_n (mi := mX10_mightCome) (pc := 2) 3 dX10_mightCome_2 rfl rfl ?_
  refine vv_iload (mi := mX10_mightCome) (pc := 3) 4 dX10_mightCome_3 rfl ?_
  refine vv_callS (mi := mX10_mightCome) (pc := 5) (rest := []) (As := [.inl a1, .inl a2, .inl a3, .inl a4]) (ctX10_isBlock (X := X) h) dX10_mightCome_5 mb_X10_isBlock rfl ml_X10_47 sc_X10_isBlock ⟨(Nat.le_of_ble_eq_true rfl), (Nat.le_of_ble_eq_true rfl)⟩ ⟨(Nat.le_of_ble_eq_true rfl), (Nat.le_of_ble_eq_true rfl)⟩ (Nat.le_of_ble_eq_true rfl) rfl (kI_ (F := fun st M' => VV X mX10_mightCome rX10_mightCome (pI_ post) 8 [(0, .inr (.inr (some this))), (1, .inl a1), (2, .inl a2), (3, .inl a3), (4, .inl a4), (5, .inl a5), (6, .inl a6)] st M' 0 0) (fun r1 M2 h => ?_))
  refine vv_if_eq (mi := mX10_mightCome) (pc := 8) 31 dX10_mightCome_8 rfl (fun c3 => ?_) (fun c3 => ?_)
  · replace h := h.1 c3
    refine vv_bipush (mi := mX10_mightCome) (pc := 31) (-2) dX10_mightCome_31 rfl ?_
    exact vv_iret (mi := mX10_mightCome) (pc := 33) dX10_mightCome_33 rfl (Nat.le_of_ble_eq_true rfl) (Nat.le_of_ble_eq_true rfl) h
  · replace h := h.2 c3
    refine vv_aload_n (mi := mX10_mightCome) (pc := 11) 0 dX10_mightCome_11 rfl rfl ?_
    refine vv_iload (mi := mX10_mightCome) (pc := 12) 5 dX10_mightCome_12 rfl ?_
    obtain ⟨ht4, h⟩ := h
    refine vv_callV (mi := mX10_mightCome) (pc := 14) (rest := []) (As := [.inl a5]) (ctX10_isDayToCome (X := X) h) dX10_mightCome_14 rfl ht4 (Nat.le_of_ble_eq_true rfl) rfl mb_X10_isDayToCome rfl ml_X10_43 im_X10_isDayToCome se_X10_isDayToCome ⟨(Nat.le_of_ble_eq_true rfl), (Nat.le_of_ble_eq_true rfl)⟩ ⟨(Nat.le_of_ble_eq_true rfl), (Nat.le_of_ble_eq_true rfl)⟩ (Nat.le_of_ble_eq_true rfl) rfl (kI_ (F := fun st M' => VV X mX10_mightCome rX10_mightCome (pI_ post) 17 [(0, .inr (.inr (some this))), (1, .inl a1), (2, .inl a2), (3, .inl a3), (4, .inl a4), (5, .inl a5), (6, .inl a6)] st M' 0 0) (fun r5 M6 h => ?_))
    refine vv_if_eq (mi := mX10_mightCome) (pc := 17) 31 dX10_mightCome_17 rfl (fun c7 => ?_) (fun c7 => ?_)
    · replace h := h.1 c7
      refine vv_bipush (mi := mX10_mightCome) (pc := 31) (-2) dX10_mightCome_31 rfl ?_
      exact vv_iret (mi := mX10_mightCome) (pc := 33) dX10_mightCome_33 rfl (Nat.le_of_ble_eq_true rfl) (Nat.le_of_ble_eq_true rfl) h
    · replace h := h.2 c7
      refine vv_iload (mi := mX10_mightCome) (pc := 20) 6 dX10_mightCome_20 rfl ?_
      refine vv_iconst (mi := mX10_mightCome) (pc := 22) 0 dX10_mightCome_22 rfl ?_
      refine vv_ldc (mi := mX10_mightCome) (pc := 23) 1000000 dX10_mightCome_23 ki_X10_227 ?_
      refine vv_callS (mi := mX10_mightCome) (pc := 25) (rest := []) (As := [.inl a6, .inl 0, .inl 1000000]) (ctX10_isWithin (X := X) h) dX10_mightCome_25 mb_X10_isWithin rfl ml_X10_64 sc_X10_isWithin ⟨(Nat.le_of_ble_eq_true rfl), (Nat.le_of_ble_eq_true rfl)⟩ ⟨(Nat.le_of_ble_eq_true rfl), (Nat.le_of_ble_eq_true rfl)⟩ (Nat.le_of_ble_eq_true rfl) rfl (kI_ (F := fun st M' => VV X mX10_mightCome rX10_mightCome (pI_ post) 28 [(0, .inr (.inr (some this))), (1, .inl a1), (2, .inl a2), (3, .inl a3), (4, .inl a4), (5, .inl a5), (6, .inl a6)] st M' 0 0) (fun r8 M9 h => ?_))
      refine vv_if_ne (mi := mX10_mightCome) (pc := 28) 34 dX10_mightCome_28 rfl (fun c10 => ?_) (fun c10 => ?_)
      · replace h := h.1 c10
        refine vv_aload_n (mi := mX10_mightCome) (pc := 34) 0 dX10_mightCome_34 rfl rfl ?_
        obtain ⟨ht11, h⟩ := h
        refine vv_getR (mi := mX10_mightCome) (pc := 35) 10 3 rfl ht11 fl_X10_35 (Nat.le_of_ble_eq_true rfl) dX10_mightCome_35 ?_
        obtain ⟨n12, en12⟩ : ∃ z : Nat, z = ddZ M9 := ⟨_, rfl⟩
        replace h := h _ en12
        obtain ⟨M13, eM13⟩ : ∃ z : Mm, z = suN M9 6 0 := ⟨_, rfl⟩
        replace h := h _ eM13
        refine vv_new (mi := mX10_mightCome) (pc := 38) 5 (r := (RX5, TX5, 2)) rfl (Nat.le_of_ble_eq_true rfl) rfl nw_5 cl_X10_246 it_5 iz_5 (Nat.le_of_ble_eq_true rfl) (Nat.le_of_ble_eq_true rfl) dX10_mightCome_38 en12 eM13 ?_
        refine vv_dup (mi := mX10_mightCome) (pc := 41) dX10_mightCome_41 rfl ?_
        obtain ⟨n14, en14⟩ : ∃ z : Nat, z = ddZ M13 := ⟨_, rfl⟩
        replace h := h _ en14
        obtain ⟨M15, eM15⟩ : ∃ z : Mm, z = suN M13 3 0 := ⟨_, rfl⟩
        replace h := h _ eM15
        refine vv_new (mi := mX10_mightCome) (pc := 42) 2 (r := (RX2, TX2, 18)) rfl (Nat.le_of_ble_eq_true rfl) rfl nw_2 cl_X10_51 it_2 iz_2 (Nat.le_of_ble_eq_true rfl) (Nat.le_of_ble_eq_true rfl) dX10_mightCome_42 en14 eM15 ?_
        refine vv_dup (mi := mX10_mightCome) (pc := 45) dX10_mightCome_45 rfl ?_
        refine vv_iconst (mi := mX10_mightCome) (pc := 46) 0 dX10_mightCome_46 rfl ?_
        refine vv_iload_n (mi := mX10_mightCome) (pc := 47) 1 dX10_mightCome_47 rfl rfl ?_
        refine vv_iload_n (mi := mX10_mightCome) (pc := 48) 2 dX10_mightCome_48 rfl rfl ?_
        refine vv_iload_n (mi := mX10_mightCome) (pc := 49) 3 dX10_mightCome_49 rfl rfl ?_
        refine vv_iload (mi := mX10_mightCome) (pc := 50) 4 dX10_mightCome_50 rfl ?_
        refine vv_iload (mi := mX10_mightCome) (pc := 52) 4 dX10_mightCome_52 rfl ?_
        refine vv_iload (mi := mX10_mightCome) (pc := 54) 5 dX10_mightCome_54 rfl ?_
        refine vv_callI (mi := mX10_mightCome) (pc := 56) (rest := [.inr (.inr (some n14)), .inr (.inr (some n12)), .inr (.inr (some n12)), .inr (.inr (ddR M9 this 3))]) (As := [.inl 0, .inl a1, .inl a2, .inl a3, .inl a4, .inl a4, .inl a5]) (ctX2_init (X := X) h) dX10_mightCome_56 rfl rfl rfl mb_X2_init rfl ml_X10_53 im_X2_init ⟨(Nat.le_of_ble_eq_true rfl), (Nat.le_of_ble_eq_true rfl)⟩ ⟨(Nat.le_of_ble_eq_true rfl), (Nat.le_of_ble_eq_true rfl)⟩ (Nat.le_of_ble_eq_true rfl) rfl (kV_ (F := fun st M' => VV X mX10_mightCome rX10_mightCome (pI_ post) 59 [(0, .inr (.inr (some this))), (1, .inl a1), (2, .inl a2), (3, .inl a3), (4, .inl a4), (5, .inl a5), (6, .inl a6)] st M' 3 28) (fun M17 h => ?_))
        refine vv_iload (mi := mX10_mightCome) (pc := 59) 6 dX10_mightCome_59 rfl ?_
        refine vv_callI (mi := mX10_mightCome) (pc := 61) (rest := [.inr (.inr (some n12)), .inr (.inr (ddR M9 this 3))]) (As := [.inr (.inr (some n14)), .inl a6]) (ctX5_init (X := X) h) dX10_mightCome_61 rfl rfl rfl mb_X5_init rfl ml_X10_248 im_X5_init ⟨(Nat.le_of_ble_eq_true rfl), (Nat.le_of_ble_eq_true rfl)⟩ ⟨(Nat.le_of_ble_eq_true rfl), (Nat.le_of_ble_eq_true rfl)⟩ (Nat.le_of_ble_eq_true rfl) rfl (kV_ (F := fun st M' => VV X mX10_mightCome rX10_mightCome (pI_ post) 64 [(0, .inr (.inr (some this))), (1, .inl a1), (2, .inl a2), (3, .inl a3), (4, .inl a4), (5, .inl a5), (6, .inl a6)] st M' 3 28) (fun M19 h => ?_))
        obtain ⟨aq20, hs21, h⟩ := h
        obtain ⟨ht22, h⟩ := h
        refine vv_callV (mi := mX10_mightCome) (pc := 64) (rest := []) (As := [.inr (.inr (some n12))]) (ctX9_offer (X := X) h) dX10_mightCome_64 hs21 ht22 (Nat.le_of_ble_eq_true rfl) rfl mb_X9_offer rfl ml_X10_251 im_X9_offer se_X9_offer ⟨(Nat.le_of_ble_eq_true rfl), (Nat.le_of_ble_eq_true rfl)⟩ ⟨(Nat.le_of_ble_eq_true rfl), (Nat.le_of_ble_eq_true rfl)⟩ (Nat.le_of_ble_eq_true rfl) rfl (kI_ (F := fun st M' => VV X mX10_mightCome rX10_mightCome (pI_ post) 67 [(0, .inr (.inr (some this))), (1, .inl a1), (2, .inl a2), (3, .inl a3), (4, .inl a4), (5, .inl a5), (6, .inl a6)] st M' 3 28) (fun r23 M24 h => ?_))
        exact vv_iret (mi := mX10_mightCome) (pc := 67) dX10_mightCome_67 rfl (Nat.le_of_ble_eq_true rfl) (Nat.le_of_ble_eq_true rfl) h
      · replace h := h.2 c10
        refine vv_bipush (mi := mX10_mightCome) (pc := 31) (-2) dX10_mightCome_31 rfl ?_
        exact vv_iret (mi := mX10_mightCome) (pc := 33) dX10_mightCome_33 rfl (Nat.le_of_ble_eq_true rfl) (Nat.le_of_ble_eq_true rfl) h
set_option maxHeartbeats 4000000 in
set_option maxRecDepth 100000 in
theorem ctX10_relief {X : Cx_} {this : Nat} {a1 : Int32} {a2 : Int32} {M : Mm} {post : Int32 → Mm → Prop} (h : PX10_relief this a1 a2 M post) : CT X mX10_relief rX10_relief [.inr (.inr (some this)), .inl a1, .inl a2] M (pI_ post) := by
  unfold PX10_relief at h
  refine CT.of (by decide +kernel) (Nat.le_of_ble_eq_true rfl) ?_
  show VV X mX10_relief rX10_relief (pI_ post) 0 [(0, .inr (.inr (some this))), (1, .inl a1), (2, .inl a2)] [] M 0 0
  refine vv_aload_n (mi := mX10_relief) (pc := 0) 0 dX10_relief_0 rfl rfl ?_
  obtain ⟨ht1, h⟩ := h
  refine vv_getR (mi := mX10_relief) (pc := 1) 10 3 rfl ht1 fl_X10_35 (Nat.le_of_ble_eq_true rfl) dX10_relief_1 ?_
  refine vv_iload_n (mi := mX10_relief) (pc := 4) 1 dX10_relief_4 rfl rfl ?_
  obtain ⟨aq2, hs3, h⟩ := h
  obtain ⟨ht4, h⟩ := h
  refine vv_callV (mi := mX10_relief) (pc := 5) (rest := []) (As := [.inl a1]) (ctX9_demandOf (X := X) h) dX10_relief_5 hs3 ht4 (Nat.le_of_ble_eq_true rfl) rfl mb_X9_demandOf rfl ml_X10_222 im_X9_demandOf se_X9_demandOf ⟨(Nat.le_of_ble_eq_true rfl), (Nat.le_of_ble_eq_true rfl)⟩ ⟨(Nat.le_of_ble_eq_true rfl), (Nat.le_of_ble_eq_true rfl)⟩ (Nat.le_of_ble_eq_true rfl) rfl (kR_ (F := fun st M' => VV X mX10_relief rX10_relief (pI_ post) 8 [(0, .inr (.inr (some this))), (1, .inl a1), (2, .inl a2)] st M' 0 0) (fun r5 M6 h => ?_))
  refine vv_astore_n (mi := mX10_relief) (pc := 8) [(3, .inr (.inr r5)), (0, .inr (.inr (some this))), (1, .inl a1), (2, .inl a2)] dX10_relief_8 rfl (Nat.le_of_ble_eq_true rfl) rfl ?_
  refine vv_aload_n (mi := mX10_relief) (pc := 9) 0 dX10_relief_9 rfl rfl ?_
  refine vv_ifnull (mi := mX10_relief) (pc := 10) 24 dX10_relief_10 rfl (fun c7 => ?_) (fun aq8 c7 => ?_)
  · replace h := h.1 c7
    refine vv_bipush (mi := mX10_relief) (pc := 24) (-2) dX10_relief_24 rfl ?_
    exact vv_iret (mi := mX10_relief) (pc := 26) dX10_relief_26 rfl (Nat.le_of_ble_eq_true rfl) (Nat.le_of_ble_eq_true rfl) h
  · replace h := h.2 aq8 c7
    refine vv_iload_n (mi := mX10_relief) (pc := 13) 3 dX10_relief_13 rfl rfl ?_
    refine vv_iconst (mi := mX10_relief) (pc := 14) 1 dX10_relief_14 rfl ?_
    refine vv_sipush (mi := mX10_relief) (pc := 15) 2000 dX10_relief_15 rfl ?_
    refine vv_callS (mi := mX10_relief) (pc := 18) (rest := []) (As := [.inl a2, .inl 1, .inl 2000]) (ctX10_isWithin (X := X) h) dX10_relief_18 mb_X10_isWithin rfl ml_X10_64 sc_X10_isWithin ⟨(Nat.le_of_ble_eq_true rfl), (Nat.le_of_ble_eq_true rfl)⟩ ⟨(Nat.le_of_ble_eq_true rfl), (Nat.le_of_ble_eq_true rfl)⟩ (Nat.le_of_ble_eq_true rfl) rfl (kI_ (F := fun st M' => VV X mX10_relief rX10_relief (pI_ post) 21 [(3, .inr (.inr r5)), (0, .inr (.inr (some this))), (1, .inl a1), (2, .inl a2)] st M' 0 0) (fun r9 M10 h => ?_))
    refine vv_if_ne (mi := mX10_relief) (pc := 21) 27 dX10_relief_21 rfl (fun c11 => ?_) (fun c11 => ?_)
    · replace h := h.1 c11
      refine vv_aload_n (mi := mX10_relief) (pc := 27) 1 dX10_relief_27 rfl rfl ?_
      obtain ⟨ht12, h⟩ := h
      refine vv_getR (mi := mX10_relief) (pc := 28) 10 3 rfl ht12 fl_X10_35 (Nat.le_of_ble_eq_true rfl) dX10_relief_28 ?_
      refine vv_aload_n (mi := mX10_relief) (pc := 31) 0 dX10_relief_31 rfl rfl ?_
      refine vv_iload_n (mi := mX10_relief) (pc := 32) 3 dX10_relief_32 rfl rfl ?_
      refine vv_aload_n (mi := mX10_relief) (pc := 33) 1 dX10_relief_33 rfl rfl ?_
      refine vv_getI (mi := mX10_relief) (pc := 34) 10 4 rfl ht12 fl_X10_39 (Nat.le_of_ble_eq_true rfl) dX10_relief_34 ?_
      obtain ⟨aq13, hs14, h⟩ := h
      obtain ⟨ht15, h⟩ := h
      refine vv_callV (mi := mX10_relief) (pc := 37) (rest := []) (As := [.inr (.inr r5), .inl a2, .inl (ddI M10 this 4)]) (ctX9_cheapestRelief (X := X) h) dX10_relief_37 hs14 ht15 (Nat.le_of_ble_eq_true rfl) rfl mb_X9_cheapestRelief rfl ml_X10_255 im_X9_cheapestRelief se_X9_cheapestRelief ⟨(Nat.le_of_ble_eq_true rfl), (Nat.le_of_ble_eq_true rfl)⟩ ⟨(Nat.le_of_ble_eq_true rfl), (Nat.le_of_ble_eq_true rfl)⟩ (Nat.le_of_ble_eq_true rfl) rfl (kI_ (F := fun st M' => VV X mX10_relief rX10_relief (pI_ post) 40 [(3, .inr (.inr r5)), (0, .inr (.inr (some this))), (1, .inl a1), (2, .inl a2)] st M' 0 0) (fun r16 M17 h => ?_))
      exact vv_iret (mi := mX10_relief) (pc := 40) dX10_relief_40 rfl (Nat.le_of_ble_eq_true rfl) (Nat.le_of_ble_eq_true rfl) h
    · replace h := h.2 c11
      refine vv_bipush (mi := mX10_relief) (pc := 24) (-2) dX10_relief_24 rfl ?_
      exact vv_iret (mi := mX10_relief) (pc := 26) dX10_relief_26 rfl (Nat.le_of_ble_eq_true rfl) (Nat.le_of_ble_eq_true rfl) h
set_option maxHeartbeats 4000000 in
set_option maxRecDepth 100000 in
theorem ctX10_take {X : Cx_} {this : Nat} {a1 : Int32} {M : Mm} {post : Int32 → Mm → Prop} (h : PX10_take this a1 M post) : CT X mX10_take rX10_take [.inr (.inr (some this)), .inl a1] M (pI_ post) := by
  unfold PX10_take at h
  refine CT.of (by decide +kernel) (Nat.le_of_ble_eq_true rfl) ?_
  show VV X mX10_take rX10_take (pI_ post) 0 [(0, .inr (.inr (some this))), (1, .inl a1)] [] M 0 0
  refine vv_aload_n (mi := mX10_take) (pc := 0) 0 dX10_take_0 rfl rfl ?_
  obtain ⟨ht1, h⟩ := h
  refine vv_getR (mi := mX10_take) (pc := 1) 10 3 rfl ht1 fl_X10_35 (Nat.le_of_ble_eq_true rfl) dX10_take_1 ?_
  refine vv_iload_n (mi := mX10_take) (pc := 4) 1 dX10_take_4 rfl rfl ?_
  obtain ⟨aq2, hs3, h⟩ := h
  obtain ⟨ht4, h⟩ := h
  refine vv_callV (mi := mX10_take) (pc := 5) (rest := []) (As := [.inl a1]) (ctX9_optionAt (X := X) h) dX10_take_5 hs3 ht4 (Nat.le_of_ble_eq_true rfl) rfl mb_X9_optionAt rfl ml_X10_259 im_X9_optionAt se_X9_optionAt ⟨(Nat.le_of_ble_eq_true rfl), (Nat.le_of_ble_eq_true rfl)⟩ ⟨(Nat.le_of_ble_eq_true rfl), (Nat.le_of_ble_eq_true rfl)⟩ (Nat.le_of_ble_eq_true rfl) rfl (kR_ (F := fun st M' => VV X mX10_take rX10_take (pI_ post) 8 [(0, .inr (.inr (some this))), (1, .inl a1)] st M' 0 0) (fun r5 M6 h => ?_))
  refine vv_astore_n (mi := mX10_take) (pc := 8) [(2, .inr (.inr r5)), (0, .inr (.inr (some this))), (1, .inl a1)] dX10_take_8 rfl (Nat.le_of_ble_eq_true rfl) rfl ?_
  refine vv_aload_n (mi := mX10_take) (pc := 9) 0 dX10_take_9 rfl rfl ?_
  refine vv_ifnull (mi := mX10_take) (pc := 10) 27 dX10_take_10 rfl (fun c7 => ?_) (fun aq8 c7 => ?_)
  · replace h := h.1 c7
    refine vv_bipush (mi := mX10_take) (pc := 27) (-2) dX10_take_27 rfl ?_
    exact vv_iret (mi := mX10_take) (pc := 29) dX10_take_29 rfl (Nat.le_of_ble_eq_true rfl) (Nat.le_of_ble_eq_true rfl) h
  · replace h := h.2 aq8 c7
    refine vv_aload_n (mi := mX10_take) (pc := 13) 0 dX10_take_13 rfl rfl ?_
    obtain ⟨ht9, h⟩ := h
    refine vv_getR (mi := mX10_take) (pc := 14) 5 0 c7 ht9 fl_X10_263 (Nat.le_of_ble_eq_true rfl) dX10_take_14 ?_
    obtain ⟨aq10, hs11, h⟩ := h
    obtain ⟨ht12, h⟩ := h
    refine vv_getI (mi := mX10_take) (pc := 17) 2 7 hs11 ht12 fl_X10_267 (Nat.le_of_ble_eq_true rfl) dX10_take_17 ?_
    refine vv_aload_n (mi := mX10_take) (pc := 20) 1 dX10_take_20 rfl rfl ?_
    obtain ⟨ht13, h⟩ := h
    refine vv_getI (mi := mX10_take) (pc := 21) 10 4 rfl ht13 fl_X10_39 (Nat.le_of_ble_eq_true rfl) dX10_take_21 ?_
    refine vv_icmp_ge (mi := mX10_take) (pc := 24) 30 dX10_take_24 rfl (fun c14 => ?_) (fun c14 => ?_)
    · replace h := h.1 c14
      refine vv_aload_n (mi := mX10_take) (pc := 30) 1 dX10_take_30 rfl rfl ?_
      refine vv_getR (mi := mX10_take) (pc := 31) 10 0 rfl ht13 fl_X10_10 (Nat.le_of_ble_eq_true rfl) dX10_take_31 ?_
      refine vv_aload_n (mi := mX10_take) (pc := 34) 0 dX10_take_34 rfl rfl ?_
      refine vv_getR (mi := mX10_take) (pc := 35) 5 0 c7 ht9 fl_X10_263 (Nat.le_of_ble_eq_true rfl) dX10_take_35 ?_
      obtain ⟨aq15, hs16, h⟩ := h
      obtain ⟨ht17, h⟩ := h
      refine vv_callV (mi := mX10_take) (pc := 38) (rest := []) (As := [.inr (.inr (ddR M6 aq8 0))]) (ctX6_append (X := X) h) dX10_take_38 hs16 ht17 (Nat.le_of_ble_eq_true rfl) rfl mb_X6_append rfl ml_X10_56 im_X6_append se_X6_append ⟨(Nat.le_of_ble_eq_true rfl), (Nat.le_of_ble_eq_true rfl)⟩ ⟨(Nat.le_of_ble_eq_true rfl), (Nat.le_of_ble_eq_true rfl)⟩ (Nat.le_of_ble_eq_true rfl) rfl (kI_ (F := fun st M' => VV X mX10_take rX10_take (pI_ post) 41 [(2, .inr (.inr r5)), (0, .inr (.inr (some this))), (1, .inl a1)] st M' 0 0) (fun r18 M19 h => ?_))
      refine vv_istore_n (mi := mX10_take) (pc := 41) [(3, .inl r18), (2, .inr (.inr r5)), (0, .inr (.inr (some this))), (1, .inl a1)] dX10_take_41 rfl (Nat.le_of_ble_eq_true rfl) rfl ?_
      refine vv_iload_n (mi := mX10_take) (pc := 42) 0 dX10_take_42 rfl rfl ?_
      refine vv_bipush (mi := mX10_take) (pc := 43) (-3) dX10_take_43 rfl ?_
      refine vv_icmp_eq (mi := mX10_take) (pc := 45) 56 dX10_take_45 rfl (fun c20 => ?_) (fun c20 => ?_)
      · replace h := h.1 c20
        refine vv_iload_n (mi := mX10_take) (pc := 56) 0 dX10_take_56 rfl rfl ?_
        exact vv_iret (mi := mX10_take) (pc := 57) dX10_take_57 rfl (Nat.le_of_ble_eq_true rfl) (Nat.le_of_ble_eq_true rfl) h
      · replace h := h.2 c20
        refine vv_aload_n (mi := mX10_take) (pc := 48) 2 dX10_take_48 rfl rfl ?_
        obtain ⟨ht21, h⟩ := h
        refine vv_getR (mi := mX10_take) (pc := 49) 10 3 rfl ht21 fl_X10_35 (Nat.le_of_ble_eq_true rfl) dX10_take_49 ?_
        refine vv_iload_n (mi := mX10_take) (pc := 52) 3 dX10_take_52 rfl rfl ?_
        obtain ⟨aq22, hs23, h⟩ := h
        obtain ⟨ht24, h⟩ := h
        refine vv_callV (mi := mX10_take) (pc := 53) (rest := []) (As := [.inl a1]) (ctX9_withdraw (X := X) h) dX10_take_53 hs23 ht24 (Nat.le_of_ble_eq_true rfl) rfl mb_X9_withdraw rfl ml_X10_268 im_X9_withdraw se_X9_withdraw ⟨(Nat.le_of_ble_eq_true rfl), (Nat.le_of_ble_eq_true rfl)⟩ ⟨(Nat.le_of_ble_eq_true rfl), (Nat.le_of_ble_eq_true rfl)⟩ (Nat.le_of_ble_eq_true rfl) rfl (kV_ (F := fun st M' => VV X mX10_take rX10_take (pI_ post) 56 [(3, .inl r18), (2, .inr (.inr r5)), (0, .inr (.inr (some this))), (1, .inl a1)] st M' 0 0) (fun M26 h => ?_))
        refine vv_iload_n (mi := mX10_take) (pc := 56) 0 dX10_take_56 rfl rfl ?_
        exact vv_iret (mi := mX10_take) (pc := 57) dX10_take_57 rfl (Nat.le_of_ble_eq_true rfl) (Nat.le_of_ble_eq_true rfl) h
    · replace h := h.2 c14
      refine vv_bipush (mi := mX10_take) (pc := 27) (-2) dX10_take_27 rfl ?_
      exact vv_iret (mi := mX10_take) (pc := 29) dX10_take_29 rfl (Nat.le_of_ble_eq_true rfl) (Nat.le_of_ble_eq_true rfl) h
set_option maxHeartbeats 4000000 in
set_option maxRecDepth 100000 in
theorem ctX10_count {X : Cx_} {this : Nat} {a1 : Int32} {M : Mm} {post : Int32 → Mm → Prop} (h : PX10_count this a1 M post) : CT X mX10_count rX10_count [.inr (.inr (some this)), .inl a1] M (pI_ post) := by
  unfold PX10_count at h
  refine CT.of (by decide +kernel) (Nat.le_of_ble_eq_true rfl) ?_
  show VV X mX10_count rX10_count (pI_ post) 0 [(0, .inr (.inr (some this))), (1, .inl a1)] [] M 0 0
  refine vv_iload_n (mi := mX10_count) (pc := 0) 1 dX10_count_0 rfl rfl ?_
  refine vv_tsw (mi := mX10_count) (pc := 1) 93 [40, 48, 56, 64, 69, 81] dX10_count_1 rfl rfl rfl (fun j t c1 c1e => ?_) (fun c1 => ?_)
  · match j, c1, c1e with
    | 0, c1, c1e =>
      cases c1
      replace h := h.1 c1e
      refine vv_aload_n (mi := mX10_count) (pc := 40) 0 dX10_count_40 rfl rfl ?_
      obtain ⟨ht2, h⟩ := h
      refine vv_getR (mi := mX10_count) (pc := 41) 10 0 rfl ht2 fl_X10_10 (Nat.le_of_ble_eq_true rfl) dX10_count_41 ?_
      obtain ⟨aq3, hs4, h⟩ := h
      obtain ⟨ht5, h⟩ := h
      refine vv_getI (mi := mX10_count) (pc := 44) 6 1 hs4 ht5 fl_X10_271 (Nat.le_of_ble_eq_true rfl) dX10_count_44 ?_
      exact vv_iret (mi := mX10_count) (pc := 47) dX10_count_47 rfl (Nat.le_of_ble_eq_true rfl) (Nat.le_of_ble_eq_true rfl) h
    | 1, c1, c1e =>
      cases c1
      replace h := h.2.1 c1e
      refine vv_aload_n (mi := mX10_count) (pc := 48) 0 dX10_count_48 rfl rfl ?_
      obtain ⟨ht6, h⟩ := h
      refine vv_getR (mi := mX10_count) (pc := 49) 10 1 rfl ht6 fl_X10_19 (Nat.le_of_ble_eq_true rfl) dX10_count_49 ?_
      obtain ⟨aq7, hs8, h⟩ := h
      obtain ⟨ht9, h⟩ := h
      refine vv_getI (mi := mX10_count) (pc := 52) 4 1 hs8 ht9 fl_X10_274 (Nat.le_of_ble_eq_true rfl) dX10_count_52 ?_
      exact vv_iret (mi := mX10_count) (pc := 55) dX10_count_55 rfl (Nat.le_of_ble_eq_true rfl) (Nat.le_of_ble_eq_true rfl) h
    | 2, c1, c1e =>
      cases c1
      replace h := h.2.2.1 c1e
      refine vv_aload_n (mi := mX10_count) (pc := 56) 0 dX10_count_56 rfl rfl ?_
      obtain ⟨ht10, h⟩ := h
      refine vv_getR (mi := mX10_count) (pc := 57) 10 3 rfl ht10 fl_X10_35 (Nat.le_of_ble_eq_true rfl) dX10_count_57 ?_
      obtain ⟨aq11, hs12, h⟩ := h
      obtain ⟨ht13, h⟩ := h
      refine vv_getI (mi := mX10_count) (pc := 60) 9 3 hs12 ht13 fl_X10_275 (Nat.le_of_ble_eq_true rfl) dX10_count_60 ?_
      exact vv_iret (mi := mX10_count) (pc := 63) dX10_count_63 rfl (Nat.le_of_ble_eq_true rfl) (Nat.le_of_ble_eq_true rfl) h
    | 3, c1, c1e =>
      cases c1
      replace h := h.2.2.2.1 c1e
      refine vv_aload_n (mi := mX10_count) (pc := 64) 0 dX10_count_64 rfl rfl ?_
      obtain ⟨ht14, h⟩ := h
      refine vv_getI (mi := mX10_count) (pc := 65) 10 4 rfl ht14 fl_X10_39 (Nat.le_of_ble_eq_true rfl) dX10_count_65 ?_
      exact vv_iret (mi := mX10_count) (pc := 68) dX10_count_68 rfl (Nat.le_of_ble_eq_true rfl) (Nat.le_of_ble_eq_true rfl) h
    | 4, c1, c1e =>
      cases c1
      replace h := h.2.2.2.2.1 c1e
      refine vv_aload_n (mi := mX10_count) (pc := 69) 0 dX10_count_69 rfl rfl ?_
      obtain ⟨ht15, h⟩ := h
      refine vv_getR (mi := mX10_count) (pc := 70) 10 0 rfl ht15 fl_X10_10 (Nat.le_of_ble_eq_true rfl) dX10_count_70 ?_
      refine vv_aload_n (mi := mX10_count) (pc := 73) 0 dX10_count_73 rfl rfl ?_
      refine vv_getI (mi := mX10_count) (pc := 74) 10 4 rfl ht15 fl_X10_39 (Nat.le_of_ble_eq_true rfl) dX10_count_74 ?_
      obtain ⟨aq16, hs17, h⟩ := h
      obtain ⟨ht18, h⟩ := h
      refine vv_callV (mi := mX10_count) (pc := 77) (rest := []) (As := [.inl (ddI M this 4)]) (ctX6_inForceOn (X := X) h) dX10_count_77 hs17 ht18 (Nat.le_of_ble_eq_true rfl) rfl mb_X6_inForceOn rfl ml_X10_276 im_X6_inForceOn se_X6_inForceOn ⟨(Nat.le_of_ble_eq_true rfl), (Nat.le_of_ble_eq_true rfl)⟩ ⟨(Nat.le_of_ble_eq_true rfl), (Nat.le_of_ble_eq_true rfl)⟩ (Nat.le_of_ble_eq_true rfl) rfl (kI_ (F := fun st M' => VV X mX10_count rX10_count (pI_ post) 80 [(0, .inr (.inr (some this))), (1, .inl a1)] st M' 0 0) (fun r19 M20 h => ?_))
      exact vv_iret (mi := mX10_count) (pc := 80) dX10_count_80 rfl (Nat.le_of_ble_eq_true rfl) (Nat.le_of_ble_eq_true rfl) h
    | 5, c1, c1e =>
      cases c1
      replace h := h.2.2.2.2.2.1 c1e
      refine vv_aload_n (mi := mX10_count) (pc := 81) 0 dX10_count_81 rfl rfl ?_
      obtain ⟨ht21, h⟩ := h
      refine vv_getR (mi := mX10_count) (pc := 82) 10 1 rfl ht21 fl_X10_19 (Nat.le_of_ble_eq_true rfl) dX10_count_82 ?_
      refine vv_aload_n (mi := mX10_count) (pc := 85) 0 dX10_count_85 rfl rfl ?_
      refine vv_getI (mi := mX10_count) (pc := 86) 10 4 rfl ht21 fl_X10_39 (Nat.le_of_ble_eq_true rfl) dX10_count_86 ?_
      obtain ⟨aq22, hs23, h⟩ := h
      obtain ⟨ht24, h⟩ := h
      refine vv_callV (mi := mX10_count) (pc := 89) (rest := []) (As := [.inl (ddI M this 4)]) (ctX4_numberedOn (X := X) h) dX10_count_89 hs23 ht24 (Nat.le_of_ble_eq_true rfl) rfl mb_X4_numberedOn rfl ml_X10_279 im_X4_numberedOn se_X4_numberedOn ⟨(Nat.le_of_ble_eq_true rfl), (Nat.le_of_ble_eq_true rfl)⟩ ⟨(Nat.le_of_ble_eq_true rfl), (Nat.le_of_ble_eq_true rfl)⟩ (Nat.le_of_ble_eq_true rfl) rfl (kI_ (F := fun st M' => VV X mX10_count rX10_count (pI_ post) 92 [(0, .inr (.inr (some this))), (1, .inl a1)] st M' 0 0) (fun r25 M26 h => ?_))
      exact vv_iret (mi := mX10_count) (pc := 92) dX10_count_92 rfl (Nat.le_of_ble_eq_true rfl) (Nat.le_of_ble_eq_true rfl) h
    | (j + 6), c1, _ => exact absurd c1 (by simp)
  · replace h := h.2.2.2.2.2.2 c1
    refine vv_iconst (mi := mX10_count) (pc := 93) (-1) dX10_count_93 rfl ?_
    exact vv_iret (mi := mX10_count) (pc := 94) dX10_count_94 rfl (Nat.le_of_ble_eq_true rfl) (Nat.le_of_ble_eq_true rfl) h
set_option maxHeartbeats 4000000 in
set_option maxRecDepth 100000 in
theorem ctX11_init {X : Cx_} {this : Nat} {M : Mm} {post : Mm → Prop} (h : PX11_init this M post) : CT X mX11_init rX11_init [.inr (.inr (some this))] M (pV_ post) := by
  unfold PX11_init at h
  refine CT.of (by decide +kernel) (Nat.le_of_ble_eq_true rfl) ?_
  show VV X mX11_init rX11_init (pV_ post) 0 [(0, .inr (.inr (some this)))] [] M 0 0
  refine vv_aload_n (mi := mX11_init) (pc := 0) 0 dX11_init_0 rfl rfl ?_
  refine vv_objInit (mi := mX11_init) (pc := 1) dX11_init_1 oi_X11_1 im_obj co_obj (Nat.le_of_ble_eq_true rfl) (Nat.le_of_ble_eq_true rfl) (Nat.le_of_ble_eq_true rfl) ?_
  refine vv_aload_n (mi := mX11_init) (pc := 4) 0 dX11_init_4 rfl rfl ?_
  refine vv_sipush (mi := mX11_init) (pc := 5) 130 dX11_init_5 rfl ?_
  obtain ⟨n1, en1⟩ : ∃ z : Nat, z = ddZ M := ⟨_, rfl⟩
  replace h := h _ en1
  obtain ⟨M2, eM2⟩ : ∃ z : Mm, z = suN M 20 130 := ⟨_, rfl⟩
  replace h := h _ eM2
  refine vv_newa (mi := mX11_init) (pc := 8) 20 130 .int (Or.inl ⟨rfl, rfl⟩) ac_int (by decide +kernel) rfl (Nat.le_of_ble_eq_true rfl) (Nat.le_of_ble_eq_true rfl) (Nat.le_of_ble_eq_true rfl) dX11_init_8 en1 eM2 ?_
  obtain ⟨ht3, h⟩ := h
  obtain ⟨M4, eM4⟩ : ∃ z : Mm, z = suR M2 this 2 (some n1) := ⟨_, rfl⟩
  replace h := h _ eM4
  refine vv_putR (mi := mX11_init) (pc := 10) 11 2 (.array .int) rfl rfl ht3 fq_X11_7 (fun _ => rfl) rfl (Nat.le_of_ble_eq_true rfl) dX11_init_10 eM4 ?_
  refine vv_aload_n (mi := mX11_init) (pc := 13) 0 dX11_init_13 rfl rfl ?_
  refine vv_sipush (mi := mX11_init) (pc := 14) 130 dX11_init_14 rfl ?_
  obtain ⟨n5, en5⟩ : ∃ z : Nat, z = ddZ M4 := ⟨_, rfl⟩
  replace h := h _ en5
  obtain ⟨M6, eM6⟩ : ∃ z : Mm, z = suN M4 20 130 := ⟨_, rfl⟩
  replace h := h _ eM6
  refine vv_newa (mi := mX11_init) (pc := 17) 20 130 .int (Or.inl ⟨rfl, rfl⟩) ac_int (by decide +kernel) rfl (Nat.le_of_ble_eq_true rfl) (Nat.le_of_ble_eq_true rfl) (Nat.le_of_ble_eq_true rfl) dX11_init_17 en5 eM6 ?_
  obtain ⟨ht7, h⟩ := h
  obtain ⟨M8, eM8⟩ : ∃ z : Mm, z = suR M6 this 3 (some n5) := ⟨_, rfl⟩
  replace h := h _ eM8
  refine vv_putR (mi := mX11_init) (pc := 19) 11 3 (.array .int) rfl rfl ht7 fq_X11_13 (fun _ => rfl) rfl (Nat.le_of_ble_eq_true rfl) dX11_init_19 eM8 ?_
  refine vv_aload_n (mi := mX11_init) (pc := 22) 0 dX11_init_22 rfl rfl ?_
  refine vv_sipush (mi := mX11_init) (pc := 23) 130 dX11_init_23 rfl ?_
  obtain ⟨n9, en9⟩ : ∃ z : Nat, z = ddZ M8 := ⟨_, rfl⟩
  replace h := h _ en9
  obtain ⟨M10, eM10⟩ : ∃ z : Mm, z = suN M8 20 130 := ⟨_, rfl⟩
  replace h := h _ eM10
  refine vv_newa (mi := mX11_init) (pc := 26) 20 130 .int (Or.inl ⟨rfl, rfl⟩) ac_int (by decide +kernel) rfl (Nat.le_of_ble_eq_true rfl) (Nat.le_of_ble_eq_true rfl) (Nat.le_of_ble_eq_true rfl) dX11_init_26 en9 eM10 ?_
  obtain ⟨ht11, h⟩ := h
  obtain ⟨M12, eM12⟩ : ∃ z : Mm, z = suR M10 this 4 (some n9) := ⟨_, rfl⟩
  replace h := h _ eM12
  refine vv_putR (mi := mX11_init) (pc := 28) 11 4 (.array .int) rfl rfl ht11 fq_X11_16 (fun _ => rfl) rfl (Nat.le_of_ble_eq_true rfl) dX11_init_28 eM12 ?_
  refine vv_aload_n (mi := mX11_init) (pc := 31) 0 dX11_init_31 rfl rfl ?_
  refine vv_sipush (mi := mX11_init) (pc := 32) 130 dX11_init_32 rfl ?_
  obtain ⟨n13, en13⟩ : ∃ z : Nat, z = ddZ M12 := ⟨_, rfl⟩
  replace h := h _ en13
  obtain ⟨M14, eM14⟩ : ∃ z : Mm, z = suN M12 20 130 := ⟨_, rfl⟩
  replace h := h _ eM14
  refine vv_newa (mi := mX11_init) (pc := 35) 20 130 .int (Or.inl ⟨rfl, rfl⟩) ac_int (by decide +kernel) rfl (Nat.le_of_ble_eq_true rfl) (Nat.le_of_ble_eq_true rfl) (Nat.le_of_ble_eq_true rfl) dX11_init_35 en13 eM14 ?_
  obtain ⟨ht15, h⟩ := h
  obtain ⟨M16, eM16⟩ : ∃ z : Mm, z = suR M14 this 5 (some n13) := ⟨_, rfl⟩
  replace h := h _ eM16
  refine vv_putR (mi := mX11_init) (pc := 37) 11 5 (.array .int) rfl rfl ht15 fq_X11_19 (fun _ => rfl) rfl (Nat.le_of_ble_eq_true rfl) dX11_init_37 eM16 ?_
  refine vv_aload_n (mi := mX11_init) (pc := 40) 0 dX11_init_40 rfl rfl ?_
  refine vv_sipush (mi := mX11_init) (pc := 41) 130 dX11_init_41 rfl ?_
  obtain ⟨n17, en17⟩ : ∃ z : Nat, z = ddZ M16 := ⟨_, rfl⟩
  replace h := h _ en17
  obtain ⟨M18, eM18⟩ : ∃ z : Mm, z = suN M16 20 130 := ⟨_, rfl⟩
  replace h := h _ eM18
  refine vv_newa (mi := mX11_init) (pc := 44) 20 130 .int (Or.inl ⟨rfl, rfl⟩) ac_int (by decide +kernel) rfl (Nat.le_of_ble_eq_true rfl) (Nat.le_of_ble_eq_true rfl) (Nat.le_of_ble_eq_true rfl) dX11_init_44 en17 eM18 ?_
  obtain ⟨ht19, h⟩ := h
  obtain ⟨M20, eM20⟩ : ∃ z : Mm, z = suR M18 this 6 (some n17) := ⟨_, rfl⟩
  replace h := h _ eM20
  refine vv_putR (mi := mX11_init) (pc := 46) 11 6 (.array .int) rfl rfl ht19 fq_X11_22 (fun _ => rfl) rfl (Nat.le_of_ble_eq_true rfl) dX11_init_46 eM20 ?_
  refine vv_aload_n (mi := mX11_init) (pc := 49) 0 dX11_init_49 rfl rfl ?_
  refine vv_sipush (mi := mX11_init) (pc := 50) 130 dX11_init_50 rfl ?_
  obtain ⟨n21, en21⟩ : ∃ z : Nat, z = ddZ M20 := ⟨_, rfl⟩
  replace h := h _ en21
  obtain ⟨M22, eM22⟩ : ∃ z : Mm, z = suN M20 20 130 := ⟨_, rfl⟩
  replace h := h _ eM22
  refine vv_newa (mi := mX11_init) (pc := 53) 20 130 .int (Or.inl ⟨rfl, rfl⟩) ac_int (by decide +kernel) rfl (Nat.le_of_ble_eq_true rfl) (Nat.le_of_ble_eq_true rfl) (Nat.le_of_ble_eq_true rfl) dX11_init_53 en21 eM22 ?_
  obtain ⟨ht23, h⟩ := h
  obtain ⟨M24, eM24⟩ : ∃ z : Mm, z = suR M22 this 7 (some n21) := ⟨_, rfl⟩
  replace h := h _ eM24
  refine vv_putR (mi := mX11_init) (pc := 55) 11 7 (.array .int) rfl rfl ht23 fq_X11_25 (fun _ => rfl) rfl (Nat.le_of_ble_eq_true rfl) dX11_init_55 eM24 ?_
  refine vv_aload_n (mi := mX11_init) (pc := 58) 0 dX11_init_58 rfl rfl ?_
  refine vv_sipush (mi := mX11_init) (pc := 59) 130 dX11_init_59 rfl ?_
  obtain ⟨n25, en25⟩ : ∃ z : Nat, z = ddZ M24 := ⟨_, rfl⟩
  replace h := h _ en25
  obtain ⟨M26, eM26⟩ : ∃ z : Mm, z = suN M24 20 130 := ⟨_, rfl⟩
  replace h := h _ eM26
  refine vv_newa (mi := mX11_init) (pc := 62) 20 130 .int (Or.inl ⟨rfl, rfl⟩) ac_int (by decide +kernel) rfl (Nat.le_of_ble_eq_true rfl) (Nat.le_of_ble_eq_true rfl) (Nat.le_of_ble_eq_true rfl) dX11_init_62 en25 eM26 ?_
  obtain ⟨ht27, h⟩ := h
  obtain ⟨M28, eM28⟩ : ∃ z : Mm, z = suR M26 this 8 (some n25) := ⟨_, rfl⟩
  replace h := h _ eM28
  refine vv_putR (mi := mX11_init) (pc := 64) 11 8 (.array .int) rfl rfl ht27 fq_X11_28 (fun _ => rfl) rfl (Nat.le_of_ble_eq_true rfl) dX11_init_64 eM28 ?_
  refine vv_aload_n (mi := mX11_init) (pc := 67) 0 dX11_init_67 rfl rfl ?_
  refine vv_sipush (mi := mX11_init) (pc := 68) 130 dX11_init_68 rfl ?_
  obtain ⟨n29, en29⟩ : ∃ z : Nat, z = ddZ M28 := ⟨_, rfl⟩
  replace h := h _ en29
  obtain ⟨M30, eM30⟩ : ∃ z : Mm, z = suN M28 20 130 := ⟨_, rfl⟩
  replace h := h _ eM30
  refine vv_newa (mi := mX11_init) (pc := 71) 20 130 .int (Or.inl ⟨rfl, rfl⟩) ac_int (by decide +kernel) rfl (Nat.le_of_ble_eq_true rfl) (Nat.le_of_ble_eq_true rfl) (Nat.le_of_ble_eq_true rfl) dX11_init_71 en29 eM30 ?_
  obtain ⟨ht31, h⟩ := h
  obtain ⟨M32, eM32⟩ : ∃ z : Mm, z = suR M30 this 9 (some n29) := ⟨_, rfl⟩
  replace h := h _ eM32
  refine vv_putR (mi := mX11_init) (pc := 73) 11 9 (.array .int) rfl rfl ht31 fq_X11_31 (fun _ => rfl) rfl (Nat.le_of_ble_eq_true rfl) dX11_init_73 eM32 ?_
  refine vv_aload_n (mi := mX11_init) (pc := 76) 0 dX11_init_76 rfl rfl ?_
  refine vv_sipush (mi := mX11_init) (pc := 77) 130 dX11_init_77 rfl ?_
  obtain ⟨n33, en33⟩ : ∃ z : Nat, z = ddZ M32 := ⟨_, rfl⟩
  replace h := h _ en33
  obtain ⟨M34, eM34⟩ : ∃ z : Mm, z = suN M32 20 130 := ⟨_, rfl⟩
  replace h := h _ eM34
  refine vv_newa (mi := mX11_init) (pc := 80) 20 130 .int (Or.inl ⟨rfl, rfl⟩) ac_int (by decide +kernel) rfl (Nat.le_of_ble_eq_true rfl) (Nat.le_of_ble_eq_true rfl) (Nat.le_of_ble_eq_true rfl) dX11_init_80 en33 eM34 ?_
  obtain ⟨ht35, h⟩ := h
  obtain ⟨M36, eM36⟩ : ∃ z : Mm, z = suR M34 this 10 (some n33) := ⟨_, rfl⟩
  replace h := h _ eM36
  refine vv_putR (mi := mX11_init) (pc := 82) 11 10 (.array .int) rfl rfl ht35 fq_X11_34 (fun _ => rfl) rfl (Nat.le_of_ble_eq_true rfl) dX11_init_82 eM36 ?_
  refine vv_aload_n (mi := mX11_init) (pc := 85) 0 dX11_init_85 rfl rfl ?_
  refine vv_sipush (mi := mX11_init) (pc := 86) 130 dX11_init_86 rfl ?_
  obtain ⟨n37, en37⟩ : ∃ z : Nat, z = ddZ M36 := ⟨_, rfl⟩
  replace h := h _ en37
  obtain ⟨M38, eM38⟩ : ∃ z : Mm, z = suN M36 20 130 := ⟨_, rfl⟩
  replace h := h _ eM38
  refine vv_newa (mi := mX11_init) (pc := 89) 20 130 .int (Or.inl ⟨rfl, rfl⟩) ac_int (by decide +kernel) rfl (Nat.le_of_ble_eq_true rfl) (Nat.le_of_ble_eq_true rfl) (Nat.le_of_ble_eq_true rfl) dX11_init_89 en37 eM38 ?_
  obtain ⟨ht39, h⟩ := h
  obtain ⟨M40, eM40⟩ : ∃ z : Mm, z = suR M38 this 11 (some n37) := ⟨_, rfl⟩
  replace h := h _ eM40
  refine vv_putR (mi := mX11_init) (pc := 91) 11 11 (.array .int) rfl rfl ht39 fq_X11_37 (fun _ => rfl) rfl (Nat.le_of_ble_eq_true rfl) dX11_init_91 eM40 ?_
  refine vv_aload_n (mi := mX11_init) (pc := 94) 0 dX11_init_94 rfl rfl ?_
  refine vv_sipush (mi := mX11_init) (pc := 95) 130 dX11_init_95 rfl ?_
  obtain ⟨n41, en41⟩ : ∃ z : Nat, z = ddZ M40 := ⟨_, rfl⟩
  replace h := h _ en41
  obtain ⟨M42, eM42⟩ : ∃ z : Mm, z = suN M40 20 130 := ⟨_, rfl⟩
  replace h := h _ eM42
  refine vv_newa (mi := mX11_init) (pc := 98) 20 130 .int (Or.inl ⟨rfl, rfl⟩) ac_int (by decide +kernel) rfl (Nat.le_of_ble_eq_true rfl) (Nat.le_of_ble_eq_true rfl) (Nat.le_of_ble_eq_true rfl) dX11_init_98 en41 eM42 ?_
  obtain ⟨ht43, h⟩ := h
  obtain ⟨M44, eM44⟩ : ∃ z : Mm, z = suR M42 this 12 (some n41) := ⟨_, rfl⟩
  replace h := h _ eM44
  refine vv_putR (mi := mX11_init) (pc := 100) 11 12 (.array .int) rfl rfl ht43 fq_X11_40 (fun _ => rfl) rfl (Nat.le_of_ble_eq_true rfl) dX11_init_100 eM44 ?_
  refine vv_aload_n (mi := mX11_init) (pc := 103) 0 dX11_init_103 rfl rfl ?_
  refine vv_sipush (mi := mX11_init) (pc := 104) 130 dX11_init_104 rfl ?_
  obtain ⟨n45, en45⟩ : ∃ z : Nat, z = ddZ M44 := ⟨_, rfl⟩
  replace h := h _ en45
  obtain ⟨M46, eM46⟩ : ∃ z : Mm, z = suN M44 20 130 := ⟨_, rfl⟩
  replace h := h _ eM46
  refine vv_newa (mi := mX11_init) (pc := 107) 20 130 .int (Or.inl ⟨rfl, rfl⟩) ac_int (by decide +kernel) rfl (Nat.le_of_ble_eq_true rfl) (Nat.le_of_ble_eq_true rfl) (Nat.le_of_ble_eq_true rfl) dX11_init_107 en45 eM46 ?_
  obtain ⟨ht47, h⟩ := h
  obtain ⟨M48, eM48⟩ : ∃ z : Mm, z = suR M46 this 13 (some n45) := ⟨_, rfl⟩
  replace h := h _ eM48
  refine vv_putR (mi := mX11_init) (pc := 109) 11 13 (.array .int) rfl rfl ht47 fq_X11_43 (fun _ => rfl) rfl (Nat.le_of_ble_eq_true rfl) dX11_init_109 eM48 ?_
  refine vv_aload_n (mi := mX11_init) (pc := 112) 0 dX11_init_112 rfl rfl ?_
  refine vv_sipush (mi := mX11_init) (pc := 113) 130 dX11_init_113 rfl ?_
  obtain ⟨n49, en49⟩ : ∃ z : Nat, z = ddZ M48 := ⟨_, rfl⟩
  replace h := h _ en49
  obtain ⟨M50, eM50⟩ : ∃ z : Mm, z = suN M48 20 130 := ⟨_, rfl⟩
  replace h := h _ eM50
  refine vv_newa (mi := mX11_init) (pc := 116) 20 130 .int (Or.inl ⟨rfl, rfl⟩) ac_int (by decide +kernel) rfl (Nat.le_of_ble_eq_true rfl) (Nat.le_of_ble_eq_true rfl) (Nat.le_of_ble_eq_true rfl) dX11_init_116 en49 eM50 ?_
  obtain ⟨ht51, h⟩ := h
  obtain ⟨M52, eM52⟩ : ∃ z : Mm, z = suR M50 this 14 (some n49) := ⟨_, rfl⟩
  replace h := h _ eM52
  refine vv_putR (mi := mX11_init) (pc := 118) 11 14 (.array .int) rfl rfl ht51 fq_X11_46 (fun _ => rfl) rfl (Nat.le_of_ble_eq_true rfl) dX11_init_118 eM52 ?_
  refine vv_aload_n (mi := mX11_init) (pc := 121) 0 dX11_init_121 rfl rfl ?_
  refine vv_sipush (mi := mX11_init) (pc := 122) 130 dX11_init_122 rfl ?_
  obtain ⟨n53, en53⟩ : ∃ z : Nat, z = ddZ M52 := ⟨_, rfl⟩
  replace h := h _ en53
  obtain ⟨M54, eM54⟩ : ∃ z : Mm, z = suN M52 21 130 := ⟨_, rfl⟩
  replace h := h _ eM54
  refine vv_newa (mi := mX11_init) (pc := 125) 21 130 .long (Or.inr (Or.inl ⟨rfl, rfl⟩)) ac_long (by decide +kernel) rfl (Nat.le_of_ble_eq_true rfl) (Nat.le_of_ble_eq_true rfl) (Nat.le_of_ble_eq_true rfl) dX11_init_125 en53 eM54 ?_
  obtain ⟨ht55, h⟩ := h
  obtain ⟨M56, eM56⟩ : ∃ z : Mm, z = suR M54 this 15 (some n53) := ⟨_, rfl⟩
  replace h := h _ eM56
  refine vv_putR (mi := mX11_init) (pc := 127) 11 15 (.array .long) rfl rfl ht55 fq_X11_49 (fun _ => rfl) rfl (Nat.le_of_ble_eq_true rfl) dX11_init_127 eM56 ?_
  refine vv_aload_n (mi := mX11_init) (pc := 130) 0 dX11_init_130 rfl rfl ?_
  refine vv_sipush (mi := mX11_init) (pc := 131) 300 dX11_init_131 rfl ?_
  obtain ⟨n57, en57⟩ : ∃ z : Nat, z = ddZ M56 := ⟨_, rfl⟩
  replace h := h _ en57
  obtain ⟨M58, eM58⟩ : ∃ z : Mm, z = suN M56 20 300 := ⟨_, rfl⟩
  replace h := h _ eM58
  refine vv_newa (mi := mX11_init) (pc := 134) 20 300 .int (Or.inl ⟨rfl, rfl⟩) ac_int (by decide +kernel) rfl (Nat.le_of_ble_eq_true rfl) (Nat.le_of_ble_eq_true rfl) (Nat.le_of_ble_eq_true rfl) dX11_init_134 en57 eM58 ?_
  obtain ⟨ht59, h⟩ := h
  obtain ⟨M60, eM60⟩ : ∃ z : Mm, z = suR M58 this 17 (some n57) := ⟨_, rfl⟩
  replace h := h _ eM60
  refine vv_putR (mi := mX11_init) (pc := 136) 11 17 (.array .int) rfl rfl ht59 fq_X11_53 (fun _ => rfl) rfl (Nat.le_of_ble_eq_true rfl) dX11_init_136 eM60 ?_
  refine vv_aload_n (mi := mX11_init) (pc := 139) 0 dX11_init_139 rfl rfl ?_
  refine vv_sipush (mi := mX11_init) (pc := 140) 300 dX11_init_140 rfl ?_
  obtain ⟨n61, en61⟩ : ∃ z : Nat, z = ddZ M60 := ⟨_, rfl⟩
  replace h := h _ en61
  obtain ⟨M62, eM62⟩ : ∃ z : Mm, z = suN M60 21 300 := ⟨_, rfl⟩
  replace h := h _ eM62
  refine vv_newa (mi := mX11_init) (pc := 143) 21 300 .long (Or.inr (Or.inl ⟨rfl, rfl⟩)) ac_long (by decide +kernel) rfl (Nat.le_of_ble_eq_true rfl) (Nat.le_of_ble_eq_true rfl) (Nat.le_of_ble_eq_true rfl) dX11_init_143 en61 eM62 ?_
  obtain ⟨ht63, h⟩ := h
  obtain ⟨M64, eM64⟩ : ∃ z : Mm, z = suR M62 this 18 (some n61) := ⟨_, rfl⟩
  replace h := h _ eM64
  refine vv_putR (mi := mX11_init) (pc := 145) 11 18 (.array .long) rfl rfl ht63 fq_X11_56 (fun _ => rfl) rfl (Nat.le_of_ble_eq_true rfl) dX11_init_145 eM64 ?_
  refine vv_aload_n (mi := mX11_init) (pc := 148) 0 dX11_init_148 rfl rfl ?_
  refine vv_sipush (mi := mX11_init) (pc := 149) 300 dX11_init_149 rfl ?_
  obtain ⟨n65, en65⟩ : ∃ z : Nat, z = ddZ M64 := ⟨_, rfl⟩
  replace h := h _ en65
  obtain ⟨M66, eM66⟩ : ∃ z : Mm, z = suN M64 20 300 := ⟨_, rfl⟩
  replace h := h _ eM66
  refine vv_newa (mi := mX11_init) (pc := 152) 20 300 .int (Or.inl ⟨rfl, rfl⟩) ac_int (by decide +kernel) rfl (Nat.le_of_ble_eq_true rfl) (Nat.le_of_ble_eq_true rfl) (Nat.le_of_ble_eq_true rfl) dX11_init_152 en65 eM66 ?_
  obtain ⟨ht67, h⟩ := h
  obtain ⟨M68, eM68⟩ : ∃ z : Mm, z = suR M66 this 19 (some n65) := ⟨_, rfl⟩
  replace h := h _ eM68
  refine vv_putR (mi := mX11_init) (pc := 154) 11 19 (.array .int) rfl rfl ht67 fq_X11_59 (fun _ => rfl) rfl (Nat.le_of_ble_eq_true rfl) dX11_init_154 eM68 ?_
  refine vv_aload_n (mi := mX11_init) (pc := 157) 0 dX11_init_157 rfl rfl ?_
  refine vv_sipush (mi := mX11_init) (pc := 158) 300 dX11_init_158 rfl ?_
  obtain ⟨n69, en69⟩ : ∃ z : Nat, z = ddZ M68 := ⟨_, rfl⟩
  replace h := h _ en69
  obtain ⟨M70, eM70⟩ : ∃ z : Mm, z = suN M68 20 300 := ⟨_, rfl⟩
  replace h := h _ eM70
  refine vv_newa (mi := mX11_init) (pc := 161) 20 300 .int (Or.inl ⟨rfl, rfl⟩) ac_int (by decide +kernel) rfl (Nat.le_of_ble_eq_true rfl) (Nat.le_of_ble_eq_true rfl) (Nat.le_of_ble_eq_true rfl) dX11_init_161 en69 eM70 ?_
  obtain ⟨ht71, h⟩ := h
  obtain ⟨M72, eM72⟩ : ∃ z : Mm, z = suR M70 this 20 (some n69) := ⟨_, rfl⟩
  replace h := h _ eM72
  refine vv_putR (mi := mX11_init) (pc := 163) 11 20 (.array .int) rfl rfl ht71 fq_X11_62 (fun _ => rfl) rfl (Nat.le_of_ble_eq_true rfl) dX11_init_163 eM72 ?_
  refine vv_aload_n (mi := mX11_init) (pc := 166) 0 dX11_init_166 rfl rfl ?_
  refine vv_sipush (mi := mX11_init) (pc := 167) 500 dX11_init_167 rfl ?_
  obtain ⟨n73, en73⟩ : ∃ z : Nat, z = ddZ M72 := ⟨_, rfl⟩
  replace h := h _ en73
  obtain ⟨M74, eM74⟩ : ∃ z : Mm, z = suN M72 20 500 := ⟨_, rfl⟩
  replace h := h _ eM74
  refine vv_newa (mi := mX11_init) (pc := 170) 20 500 .int (Or.inl ⟨rfl, rfl⟩) ac_int (by decide +kernel) rfl (Nat.le_of_ble_eq_true rfl) (Nat.le_of_ble_eq_true rfl) (Nat.le_of_ble_eq_true rfl) dX11_init_170 en73 eM74 ?_
  obtain ⟨ht75, h⟩ := h
  obtain ⟨M76, eM76⟩ : ∃ z : Mm, z = suR M74 this 22 (some n73) := ⟨_, rfl⟩
  replace h := h _ eM76
  refine vv_putR (mi := mX11_init) (pc := 172) 11 22 (.array .int) rfl rfl ht75 fq_X11_65 (fun _ => rfl) rfl (Nat.le_of_ble_eq_true rfl) dX11_init_172 eM76 ?_
  refine vv_aload_n (mi := mX11_init) (pc := 175) 0 dX11_init_175 rfl rfl ?_
  refine vv_sipush (mi := mX11_init) (pc := 176) 500 dX11_init_176 rfl ?_
  obtain ⟨n77, en77⟩ : ∃ z : Nat, z = ddZ M76 := ⟨_, rfl⟩
  replace h := h _ en77
  obtain ⟨M78, eM78⟩ : ∃ z : Mm, z = suN M76 20 500 := ⟨_, rfl⟩
  replace h := h _ eM78
  refine vv_newa (mi := mX11_init) (pc := 179) 20 500 .int (Or.inl ⟨rfl, rfl⟩) ac_int (by decide +kernel) rfl (Nat.le_of_ble_eq_true rfl) (Nat.le_of_ble_eq_true rfl) (Nat.le_of_ble_eq_true rfl) dX11_init_179 en77 eM78 ?_
  obtain ⟨ht79, h⟩ := h
  obtain ⟨M80, eM80⟩ : ∃ z : Mm, z = suR M78 this 23 (some n77) := ⟨_, rfl⟩
  replace h := h _ eM80
  refine vv_putR (mi := mX11_init) (pc := 181) 11 23 (.array .int) rfl rfl ht79 fq_X11_68 (fun _ => rfl) rfl (Nat.le_of_ble_eq_true rfl) dX11_init_181 eM80 ?_
  refine vv_aload_n (mi := mX11_init) (pc := 184) 0 dX11_init_184 rfl rfl ?_
  refine vv_sipush (mi := mX11_init) (pc := 185) 500 dX11_init_185 rfl ?_
  obtain ⟨n81, en81⟩ : ∃ z : Nat, z = ddZ M80 := ⟨_, rfl⟩
  replace h := h _ en81
  obtain ⟨M82, eM82⟩ : ∃ z : Mm, z = suN M80 20 500 := ⟨_, rfl⟩
  replace h := h _ eM82
  refine vv_newa (mi := mX11_init) (pc := 188) 20 500 .int (Or.inl ⟨rfl, rfl⟩) ac_int (by decide +kernel) rfl (Nat.le_of_ble_eq_true rfl) (Nat.le_of_ble_eq_true rfl) (Nat.le_of_ble_eq_true rfl) dX11_init_188 en81 eM82 ?_
  obtain ⟨ht83, h⟩ := h
  obtain ⟨M84, eM84⟩ : ∃ z : Mm, z = suR M82 this 24 (some n81) := ⟨_, rfl⟩
  replace h := h _ eM84
  refine vv_putR (mi := mX11_init) (pc := 190) 11 24 (.array .int) rfl rfl ht83 fq_X11_71 (fun _ => rfl) rfl (Nat.le_of_ble_eq_true rfl) dX11_init_190 eM84 ?_
  refine vv_aload_n (mi := mX11_init) (pc := 193) 0 dX11_init_193 rfl rfl ?_
  refine vv_iconst (mi := mX11_init) (pc := 194) 4 dX11_init_194 rfl ?_
  obtain ⟨n85, en85⟩ : ∃ z : Nat, z = ddZ M84 := ⟨_, rfl⟩
  replace h := h _ en85
  obtain ⟨M86, eM86⟩ : ∃ z : Mm, z = suN M84 20 4 := ⟨_, rfl⟩
  replace h := h _ eM86
  refine vv_newa (mi := mX11_init) (pc := 195) 20 4 .int (Or.inl ⟨rfl, rfl⟩) ac_int (by decide +kernel) rfl (Nat.le_of_ble_eq_true rfl) (Nat.le_of_ble_eq_true rfl) (Nat.le_of_ble_eq_true rfl) dX11_init_195 en85 eM86 ?_
  obtain ⟨ht87, h⟩ := h
  obtain ⟨M88, eM88⟩ : ∃ z : Mm, z = suR M86 this 25 (some n85) := ⟨_, rfl⟩
  replace h := h _ eM88
  refine vv_putR (mi := mX11_init) (pc := 197) 11 25 (.array .int) rfl rfl ht87 fq_X11_74 (fun _ => rfl) rfl (Nat.le_of_ble_eq_true rfl) dX11_init_197 eM88 ?_
  refine vv_aload_n (mi := mX11_init) (pc := 200) 0 dX11_init_200 rfl rfl ?_
  refine vv_iconst (mi := mX11_init) (pc := 201) 4 dX11_init_201 rfl ?_
  obtain ⟨n89, en89⟩ : ∃ z : Nat, z = ddZ M88 := ⟨_, rfl⟩
  replace h := h _ en89
  obtain ⟨M90, eM90⟩ : ∃ z : Mm, z = suN M88 20 4 := ⟨_, rfl⟩
  replace h := h _ eM90
  refine vv_newa (mi := mX11_init) (pc := 202) 20 4 .int (Or.inl ⟨rfl, rfl⟩) ac_int (by decide +kernel) rfl (Nat.le_of_ble_eq_true rfl) (Nat.le_of_ble_eq_true rfl) (Nat.le_of_ble_eq_true rfl) dX11_init_202 en89 eM90 ?_
  obtain ⟨ht91, h⟩ := h
  obtain ⟨M92, eM92⟩ : ∃ z : Mm, z = suR M90 this 26 (some n89) := ⟨_, rfl⟩
  replace h := h _ eM92
  refine vv_putR (mi := mX11_init) (pc := 204) 11 26 (.array .int) rfl rfl ht91 fq_X11_77 (fun _ => rfl) rfl (Nat.le_of_ble_eq_true rfl) dX11_init_204 eM92 ?_
  refine vv_aload_n (mi := mX11_init) (pc := 207) 0 dX11_init_207 rfl rfl ?_
  refine vv_bipush (mi := mX11_init) (pc := 208) 64 dX11_init_208 rfl ?_
  obtain ⟨n93, en93⟩ : ∃ z : Nat, z = ddZ M92 := ⟨_, rfl⟩
  replace h := h _ en93
  obtain ⟨M94, eM94⟩ : ∃ z : Mm, z = suN M92 20 64 := ⟨_, rfl⟩
  replace h := h _ eM94
  refine vv_newa (mi := mX11_init) (pc := 210) 20 64 .int (Or.inl ⟨rfl, rfl⟩) ac_int (by decide +kernel) rfl (Nat.le_of_ble_eq_true rfl) (Nat.le_of_ble_eq_true rfl) (Nat.le_of_ble_eq_true rfl) dX11_init_210 en93 eM94 ?_
  obtain ⟨ht95, h⟩ := h
  obtain ⟨M96, eM96⟩ : ∃ z : Mm, z = suR M94 this 27 (some n93) := ⟨_, rfl⟩
  replace h := h _ eM96
  refine vv_putR (mi := mX11_init) (pc := 212) 11 27 (.array .int) rfl rfl ht95 fq_X11_80 (fun _ => rfl) rfl (Nat.le_of_ble_eq_true rfl) dX11_init_212 eM96 ?_
  refine vv_aload_n (mi := mX11_init) (pc := 215) 0 dX11_init_215 rfl rfl ?_
  refine vv_iconst (mi := mX11_init) (pc := 216) 4 dX11_init_216 rfl ?_
  obtain ⟨n97, en97⟩ : ∃ z : Nat, z = ddZ M96 := ⟨_, rfl⟩
  replace h := h _ en97
  obtain ⟨M98, eM98⟩ : ∃ z : Mm, z = suN M96 20 4 := ⟨_, rfl⟩
  replace h := h _ eM98
  refine vv_newa (mi := mX11_init) (pc := 217) 20 4 .int (Or.inl ⟨rfl, rfl⟩) ac_int (by decide +kernel) rfl (Nat.le_of_ble_eq_true rfl) (Nat.le_of_ble_eq_true rfl) (Nat.le_of_ble_eq_true rfl) dX11_init_217 en97 eM98 ?_
  obtain ⟨ht99, h⟩ := h
  obtain ⟨M100, eM100⟩ : ∃ z : Mm, z = suR M98 this 28 (some n97) := ⟨_, rfl⟩
  replace h := h _ eM100
  refine vv_putR (mi := mX11_init) (pc := 219) 11 28 (.array .int) rfl rfl ht99 fq_X11_83 (fun _ => rfl) rfl (Nat.le_of_ble_eq_true rfl) dX11_init_219 eM100 ?_
  refine vv_aload_n (mi := mX11_init) (pc := 222) 0 dX11_init_222 rfl rfl ?_
  refine vv_iconst (mi := mX11_init) (pc := 223) 4 dX11_init_223 rfl ?_
  obtain ⟨n101, en101⟩ : ∃ z : Nat, z = ddZ M100 := ⟨_, rfl⟩
  replace h := h _ en101
  obtain ⟨M102, eM102⟩ : ∃ z : Mm, z = suN M100 22 4 := ⟨_, rfl⟩
  replace h := h _ eM102
  refine vv_newa (mi := mX11_init) (pc := 224) 22 4 .boolean (Or.inr (Or.inr ⟨rfl, rfl⟩)) ac_boolean (by decide +kernel) rfl (Nat.le_of_ble_eq_true rfl) (Nat.le_of_ble_eq_true rfl) (Nat.le_of_ble_eq_true rfl) dX11_init_224 en101 eM102 ?_
  obtain ⟨ht103, h⟩ := h
  obtain ⟨M104, eM104⟩ : ∃ z : Mm, z = suR M102 this 29 (some n101) := ⟨_, rfl⟩
  replace h := h _ eM104
  refine vv_putR (mi := mX11_init) (pc := 226) 11 29 (.array .boolean) rfl rfl ht103 fq_X11_86 (fun _ => rfl) rfl (Nat.le_of_ble_eq_true rfl) dX11_init_226 eM104 ?_
  refine vv_aload_n (mi := mX11_init) (pc := 229) 0 dX11_init_229 rfl rfl ?_
  refine vv_iconst (mi := mX11_init) (pc := 230) 4 dX11_init_230 rfl ?_
  obtain ⟨n105, en105⟩ : ∃ z : Nat, z = ddZ M104 := ⟨_, rfl⟩
  replace h := h _ en105
  obtain ⟨M106, eM106⟩ : ∃ z : Mm, z = suN M104 22 4 := ⟨_, rfl⟩
  replace h := h _ eM106
  refine vv_newa (mi := mX11_init) (pc := 231) 22 4 .boolean (Or.inr (Or.inr ⟨rfl, rfl⟩)) ac_boolean (by decide +kernel) rfl (Nat.le_of_ble_eq_true rfl) (Nat.le_of_ble_eq_true rfl) (Nat.le_of_ble_eq_true rfl) dX11_init_231 en105 eM106 ?_
  obtain ⟨ht107, h⟩ := h
  obtain ⟨M108, eM108⟩ : ∃ z : Mm, z = suR M106 this 30 (some n105) := ⟨_, rfl⟩
  replace h := h _ eM108
  refine vv_putR (mi := mX11_init) (pc := 233) 11 30 (.array .boolean) rfl rfl ht107 fq_X11_90 (fun _ => rfl) rfl (Nat.le_of_ble_eq_true rfl) dX11_init_233 eM108 ?_
  refine vv_aload_n (mi := mX11_init) (pc := 236) 0 dX11_init_236 rfl rfl ?_
  refine vv_bipush (mi := mX11_init) (pc := 237) 17 dX11_init_237 rfl ?_
  obtain ⟨n109, en109⟩ : ∃ z : Nat, z = ddZ M108 := ⟨_, rfl⟩
  replace h := h _ en109
  obtain ⟨M110, eM110⟩ : ∃ z : Mm, z = suN M108 20 17 := ⟨_, rfl⟩
  replace h := h _ eM110
  refine vv_newa (mi := mX11_init) (pc := 239) 20 17 .int (Or.inl ⟨rfl, rfl⟩) ac_int (by decide +kernel) rfl (Nat.le_of_ble_eq_true rfl) (Nat.le_of_ble_eq_true rfl) (Nat.le_of_ble_eq_true rfl) dX11_init_239 en109 eM110 ?_
  obtain ⟨ht111, h⟩ := h
  obtain ⟨M112, eM112⟩ : ∃ z : Mm, z = suR M110 this 31 (some n109) := ⟨_, rfl⟩
  replace h := h _ eM112
  refine vv_putR (mi := mX11_init) (pc := 241) 11 31 (.array .int) rfl rfl ht111 fq_X11_93 (fun _ => rfl) rfl (Nat.le_of_ble_eq_true rfl) dX11_init_241 eM112 ?_
  refine vv_aload_n (mi := mX11_init) (pc := 244) 0 dX11_init_244 rfl rfl ?_
  refine vv_bipush (mi := mX11_init) (pc := 245) 16 dX11_init_245 rfl ?_
  obtain ⟨n113, en113⟩ : ∃ z : Nat, z = ddZ M112 := ⟨_, rfl⟩
  replace h := h _ en113
  obtain ⟨M114, eM114⟩ : ∃ z : Mm, z = suN M112 20 16 := ⟨_, rfl⟩
  replace h := h _ eM114
  refine vv_newa (mi := mX11_init) (pc := 247) 20 16 .int (Or.inl ⟨rfl, rfl⟩) ac_int (by decide +kernel) rfl (Nat.le_of_ble_eq_true rfl) (Nat.le_of_ble_eq_true rfl) (Nat.le_of_ble_eq_true rfl) dX11_init_247 en113 eM114 ?_
  obtain ⟨ht115, h⟩ := h
  obtain ⟨M116, eM116⟩ : ∃ z : Mm, z = suR M114 this 33 (some n113) := ⟨_, rfl⟩
  replace h := h _ eM116
  refine vv_putR (mi := mX11_init) (pc := 249) 11 33 (.array .int) rfl rfl ht115 fq_X11_96 (fun _ => rfl) rfl (Nat.le_of_ble_eq_true rfl) dX11_init_249 eM116 ?_
  refine vv_aload_n (mi := mX11_init) (pc := 252) 0 dX11_init_252 rfl rfl ?_
  refine vv_bipush (mi := mX11_init) (pc := 253) 16 dX11_init_253 rfl ?_
  obtain ⟨n117, en117⟩ : ∃ z : Nat, z = ddZ M116 := ⟨_, rfl⟩
  replace h := h _ en117
  obtain ⟨M118, eM118⟩ : ∃ z : Mm, z = suN M116 20 16 := ⟨_, rfl⟩
  replace h := h _ eM118
  refine vv_newa (mi := mX11_init) (pc := 255) 20 16 .int (Or.inl ⟨rfl, rfl⟩) ac_int (by decide +kernel) rfl (Nat.le_of_ble_eq_true rfl) (Nat.le_of_ble_eq_true rfl) (Nat.le_of_ble_eq_true rfl) dX11_init_255 en117 eM118 ?_
  obtain ⟨ht119, h⟩ := h
  obtain ⟨M120, eM120⟩ : ∃ z : Mm, z = suR M118 this 34 (some n117) := ⟨_, rfl⟩
  replace h := h _ eM120
  refine vv_putR (mi := mX11_init) (pc := 257) 11 34 (.array .int) rfl rfl ht119 fq_X11_99 (fun _ => rfl) rfl (Nat.le_of_ble_eq_true rfl) dX11_init_257 eM120 ?_
  refine vv_aload_n (mi := mX11_init) (pc := 260) 0 dX11_init_260 rfl rfl ?_
  refine vv_bipush (mi := mX11_init) (pc := 261) 9 dX11_init_261 rfl ?_
  obtain ⟨n121, en121⟩ : ∃ z : Nat, z = ddZ M120 := ⟨_, rfl⟩
  replace h := h _ en121
  obtain ⟨M122, eM122⟩ : ∃ z : Mm, z = suN M120 20 9 := ⟨_, rfl⟩
  replace h := h _ eM122
  refine vv_newa (mi := mX11_init) (pc := 263) 20 9 .int (Or.inl ⟨rfl, rfl⟩) ac_int (by decide +kernel) rfl (Nat.le_of_ble_eq_true rfl) (Nat.le_of_ble_eq_true rfl) (Nat.le_of_ble_eq_true rfl) dX11_init_263 en121 eM122 ?_
  obtain ⟨ht123, h⟩ := h
  obtain ⟨M124, eM124⟩ : ∃ z : Mm, z = suR M122 this 36 (some n121) := ⟨_, rfl⟩
  replace h := h _ eM124
  refine vv_putR (mi := mX11_init) (pc := 265) 11 36 (.array .int) rfl rfl ht123 fq_X11_102 (fun _ => rfl) rfl (Nat.le_of_ble_eq_true rfl) dX11_init_265 eM124 ?_
  refine vv_aload_n (mi := mX11_init) (pc := 268) 0 dX11_init_268 rfl rfl ?_
  refine vv_sipush (mi := mX11_init) (pc := 269) 2001 dX11_init_269 rfl ?_
  obtain ⟨n125, en125⟩ : ∃ z : Nat, z = ddZ M124 := ⟨_, rfl⟩
  replace h := h _ en125
  obtain ⟨M126, eM126⟩ : ∃ z : Mm, z = suN M124 21 2001 := ⟨_, rfl⟩
  replace h := h _ eM126
  refine vv_newa (mi := mX11_init) (pc := 272) 21 2001 .long (Or.inr (Or.inl ⟨rfl, rfl⟩)) ac_long (by decide +kernel) rfl (Nat.le_of_ble_eq_true rfl) (Nat.le_of_ble_eq_true rfl) (Nat.le_of_ble_eq_true rfl) dX11_init_272 en125 eM126 ?_
  obtain ⟨ht127, h⟩ := h
  obtain ⟨M128, eM128⟩ : ∃ z : Mm, z = suR M126 this 37 (some n125) := ⟨_, rfl⟩
  replace h := h _ eM128
  refine vv_putR (mi := mX11_init) (pc := 274) 11 37 (.array .long) rfl rfl ht127 fq_X11_105 (fun _ => rfl) rfl (Nat.le_of_ble_eq_true rfl) dX11_init_274 eM128 ?_
  exact vv_vret (mi := mX11_init) (pc := 277) dX11_init_277 rfl (Nat.le_of_ble_eq_true rfl) (Nat.le_of_ble_eq_true rfl) h
set_option maxHeartbeats 4000000 in
set_option maxRecDepth 100000 in
theorem ctX11_in {X : Cx_} {a1 : Int64} {a2 : Int64} {a3 : Int64} {M : Mm} {post : Int32 → Mm → Prop} (h : PX11_in a1 a2 a3 M post) : CT X mX11_in rX11_in [.inr (.inl a1), .inr (.inl a2), .inr (.inl a3)] M (pI_ post) := by
  unfold PX11_in at h
  refine CT.of (by decide +kernel) (Nat.le_of_ble_eq_true rfl) ?_
  show VV X mX11_in rX11_in (pI_ post) 0 [(0, .inr (.inl a1)), (2, .inr (.inl a2)), (4, .inr (.inl a3))] [] M 0 0
  refine vv_lload_n (mi := mX11_in) (pc := 0) 0 dX11_in_0 rfl rfl ?_
  refine vv_lload_n (mi := mX11_in) (pc := 1) 1 dX11_in_1 rfl rfl ?_
  refine vv_lcmp (mi := mX11_in) (pc := 2) dX11_in_2 ?_
  refine vv_if_lt (mi := mX11_in) (pc := 3) 17 dX11_in_3 rfl (fun c1 => ?_) (fun c1 => ?_)
  · replace h := h.1 c1
    refine vv_iconst (mi := mX11_in) (pc := 17) 0 dX11_in_17 rfl ?_
    exact vv_zret (mi := mX11_in) (pc := 18) dX11_in_18 rfl (Or.inl rfl) (Nat.le_of_ble_eq_true rfl) (Nat.le_of_ble_eq_true rfl) h
  · replace h := h.2 c1
    refine vv_lload_n (mi := mX11_in) (pc := 6) 0 dX11_in_6 rfl rfl ?_
    refine vv_lload (mi := mX11_in) (pc := 7) 2 dX11_in_7 rfl ?_
    refine vv_lcmp (mi := mX11_in) (pc := 9) dX11_in_9 ?_
    refine vv_if_gt (mi := mX11_in) (pc := 10) 17 dX11_in_10 rfl (fun c2 => ?_) (fun c2 => ?_)
    · replace h := h.1 c2
      refine vv_iconst (mi := mX11_in) (pc := 17) 0 dX11_in_17 rfl ?_
      exact vv_zret (mi := mX11_in) (pc := 18) dX11_in_18 rfl (Or.inl rfl) (Nat.le_of_ble_eq_true rfl) (Nat.le_of_ble_eq_true rfl) h
    · replace h := h.2 c2
      refine vv_iconst (mi := mX11_in) (pc := 13) 1 dX11_in_13 rfl ?_
      refine vv_goto (mi := mX11_in) (pc := 14) 18 dX11_in_14 rfl ?_
      exact vv_zret (mi := mX11_in) (pc := 18) dX11_in_18 rfl (Or.inr rfl) (Nat.le_of_ble_eq_true rfl) (Nat.le_of_ble_eq_true rfl) h
set_option maxHeartbeats 4000000 in
set_option maxRecDepth 100000 in
theorem ctX11_isDay {X : Cx_} {a1 : Int32} {M : Mm} {post : Int32 → Mm → Prop} (h : PX11_isDay a1 M post) : CT X mX11_isDay rX11_isDay [.inl a1] M (pI_ post) := by
  unfold PX11_isDay at h
  refine CT.of (by decide +kernel) (Nat.le_of_ble_eq_true rfl) ?_
  show VV X mX11_isDay rX11_isDay (pI_ post) 0 [(0, .inl a1)] [] M 0 0
  refine vv_iload_n (mi := mX11_isDay) (pc := 0) 0 dX11_isDay_0 rfl rfl ?_
  refine vv_i2l (mi := mX11_isDay) (pc := 1) dX11_isDay_1 ?_
  refine vv_lconst (mi := mX11_isDay) (pc := 2) 0 dX11_isDay_2 rfl ?_
  refine vv_ldc2 (mi := mX11_isDay) (pc := 3) 20000 dX11_isDay_3 kl_X11_108 ?_
  refine vv_callS (mi := mX11_isDay) (pc := 6) (rest := []) (As := [.inr (.inl (Int32.toInt64 a1)), .inr (.inl 0), .inr (.inl 20000)]) (ctX11_in (X := X) h) dX11_isDay_6 mb_X11_in rfl ml_X11_110 sc_X11_in ⟨(Nat.le_of_ble_eq_true rfl), (Nat.le_of_ble_eq_true rfl)⟩ ⟨(Nat.le_of_ble_eq_true rfl), (Nat.le_of_ble_eq_true rfl)⟩ (Nat.le_of_ble_eq_true rfl) rfl (kI_ (F := fun st M' => VV X mX11_isDay rX11_isDay (pI_ post) 9 [(0, .inl a1)] st M' 0 0) (fun r1 M2 h => ?_))
  obtain ⟨hz3, h⟩ := h
  exact vv_zret (mi := mX11_isDay) (pc := 9) dX11_isDay_9 rfl hz3 (Nat.le_of_ble_eq_true rfl) (Nat.le_of_ble_eq_true rfl) h
set_option maxHeartbeats 4000000 in
set_option maxRecDepth 100000 in
theorem ctX11_now {X : Cx_} {this : Nat} {a1 : Int32} {M : Mm} {post : Int32 → Mm → Prop} (h : PX11_now this a1 M post) : CT X mX11_now rX11_now [.inr (.inr (some this)), .inl a1] M (pI_ post) := by
  unfold PX11_now at h
  refine CT.of (by decide +kernel) (Nat.le_of_ble_eq_true rfl) ?_
  show VV X mX11_now rX11_now (pI_ post) 0 [(0, .inr (.inr (some this))), (1, .inl a1)] [] M 0 0
  refine vv_iload_n (mi := mX11_now) (pc := 0) 1 dX11_now_0 rfl rfl ?_
  refine vv_i2l (mi := mX11_now) (pc := 1) dX11_now_1 ?_
  refine vv_aload_n (mi := mX11_now) (pc := 2) 0 dX11_now_2 rfl rfl ?_
  obtain ⟨ht1, h⟩ := h
  refine vv_getI (mi := mX11_now) (pc := 3) 11 0 rfl ht1 fl_X11_114 (Nat.le_of_ble_eq_true rfl) dX11_now_3 ?_
  refine vv_i2l (mi := mX11_now) (pc := 6) dX11_now_6 ?_
  refine vv_ldc2 (mi := mX11_now) (pc := 7) 20000 dX11_now_7 kl_X11_108 ?_
  refine vv_callS (mi := mX11_now) (pc := 10) (rest := []) (As := [.inr (.inl (Int32.toInt64 a1)), .inr (.inl (Int32.toInt64 (ddI M this 0))), .inr (.inl 20000)]) (ctX11_in (X := X) h) dX11_now_10 mb_X11_in rfl ml_X11_110 sc_X11_in ⟨(Nat.le_of_ble_eq_true rfl), (Nat.le_of_ble_eq_true rfl)⟩ ⟨(Nat.le_of_ble_eq_true rfl), (Nat.le_of_ble_eq_true rfl)⟩ (Nat.le_of_ble_eq_true rfl) rfl (kI_ (F := fun st M' => VV X mX11_now rX11_now (pI_ post) 13 [(0, .inr (.inr (some this))), (1, .inl a1)] st M' 0 0) (fun r2 M3 h => ?_))
  refine vv_if_ne (mi := mX11_now) (pc := 13) 19 dX11_now_13 rfl (fun c4 => ?_) (fun c4 => ?_)
  · replace h := h.1 c4
    refine vv_aload_n (mi := mX11_now) (pc := 19) 0 dX11_now_19 rfl rfl ?_
    refine vv_iload_n (mi := mX11_now) (pc := 20) 1 dX11_now_20 rfl rfl ?_
    obtain ⟨ht5, h⟩ := h
    obtain ⟨M6, eM6⟩ : ∃ z : Mm, z = suI M3 this 0 a1 := ⟨_, rfl⟩
    replace h := h _ eM6
    refine vv_putI (mi := mX11_now) (pc := 21) 11 0 rfl ht5 fq_X11_114 (fun q => by cases q) rfl (Nat.le_of_ble_eq_true rfl) dX11_now_21 eM6 ?_
    refine vv_iload_n (mi := mX11_now) (pc := 24) 1 dX11_now_24 rfl rfl ?_
    exact vv_iret (mi := mX11_now) (pc := 25) dX11_now_25 rfl (Nat.le_of_ble_eq_true rfl) (Nat.le_of_ble_eq_true rfl) h
  · replace h := h.2 c4
    refine vv_bipush (mi := mX11_now) (pc := 16) (-2) dX11_now_16 rfl ?_
    exact vv_iret (mi := mX11_now) (pc := 18) dX11_now_18 rfl (Nat.le_of_ble_eq_true rfl) (Nat.le_of_ble_eq_true rfl) h
set_option maxHeartbeats 4000000 in
set_option maxRecDepth 100000 in
theorem bX11_figuresOf_12 {X : Cx_} {kb12 : Int32 → Int64 → Mm → Prop} {post : Int32 → Mm → Prop} (hb12 : ∀ (x2 : Int32) (x3 : Int64) (M : Mm), kb12 x2 x3 M → VV X mX11_figuresOf rX11_figuresOf (pI_ post) 12 [(2, .inl x2), (3, .inr (.inl x3))] [] M 0 0) {x2 : Int32} {x3 : Int64} {M : Mm} (h : BX11_figuresOf_12 kb12 post x2 x3 M) : VV X mX11_figuresOf rX11_figuresOf (pI_ post) 12 [(2, .inl x2), (3, .inr (.inl x3))] [] M 0 0 := by
  unfold BX11_figuresOf_12 at h
  refine vv_lload_n (mi := mX11_figuresOf) (pc := 12) 1 dX11_figuresOf_12 rfl rfl ?_
  refine vv_ldc2 (mi := mX11_figuresOf) (pc := 13) 9 dX11_figuresOf_13 kl_X11_118 ?_
  refine vv_lcmp (mi := mX11_figuresOf) (pc := 16) dX11_figuresOf_16 ?_
  refine vv_if_le (mi := mX11_figuresOf) (pc := 17) 32 dX11_figuresOf_17 rfl (fun c2 => ?_) (fun c2 => ?_)
  · replace h := h.1 c2
    refine vv_lload_n (mi := mX11_figuresOf) (pc := 32) 1 dX11_figuresOf_32 rfl rfl ?_
    refine vv_lconst (mi := mX11_figuresOf) (pc := 33) 1 dX11_figuresOf_33 rfl ?_
    refine vv_lcmp (mi := mX11_figuresOf) (pc := 34) dX11_figuresOf_34 ?_
    refine vv_if_ne (mi := mX11_figuresOf) (pc := 35) 42 dX11_figuresOf_35 rfl (fun c3 => ?_) (fun c3 => ?_)
    · replace h := h.1 c3
      refine vv_iconst (mi := mX11_figuresOf) (pc := 42) (-1) dX11_figuresOf_42 rfl ?_
      exact vv_iret (mi := mX11_figuresOf) (pc := 43) dX11_figuresOf_43 rfl (Nat.le_of_ble_eq_true rfl) (Nat.le_of_ble_eq_true rfl) h
    · replace h := h.2 c3
      refine vv_iload_n (mi := mX11_figuresOf) (pc := 38) 0 dX11_figuresOf_38 rfl rfl ?_
      refine vv_goto (mi := mX11_figuresOf) (pc := 39) 43 dX11_figuresOf_39 rfl ?_
      exact vv_iret (mi := mX11_figuresOf) (pc := 43) dX11_figuresOf_43 rfl (Nat.le_of_ble_eq_true rfl) (Nat.le_of_ble_eq_true rfl) h
  · replace h := h.2 c2
    refine vv_lload_n (mi := mX11_figuresOf) (pc := 20) 1 dX11_figuresOf_20 rfl rfl ?_
    refine vv_ldc2 (mi := mX11_figuresOf) (pc := 21) 10 dX11_figuresOf_21 kl_X11_120 ?_
    refine vv_ldiv (mi := mX11_figuresOf) (pc := 24) nzL_10 dX11_figuresOf_24 ?_
    obtain ⟨v4, ev4⟩ : ∃ z : Int64, z = (x3 / 10) := ⟨_, rfl⟩
    refine vv_namL ev4 ?_
    replace h := h _ ev4
    refine vv_lstore_n (mi := mX11_figuresOf) (pc := 25) [(3, .inr (.inl v4)), (2, .inl x2)] dX11_figuresOf_25 rfl (Nat.le_of_ble_eq_true rfl) rfl ?_
    refine vv_iinc (mi := mX11_figuresOf) (pc := 26) (x2 + 1) 1 [(2, .inl (x2 + 1)), (3, .inr (.inl v4))] dX11_figuresOf_26 rfl rfl (Nat.le_of_ble_eq_true rfl) rfl ?_
    refine vv_goto (mi := mX11_figuresOf) (pc := 29) 12 dX11_figuresOf_29 rfl ?_
    refine vv_sub (mi := mX11_figuresOf) [(2, .inl (x2 + 1)), (3, .inr (.inl v4))] [0, 1] rfl ?_
    exact hb12 _ _ _ h
theorem loX11_figuresOf_12 {X : Cx_}  {post : Int32 → Mm → Prop}  : ∀ (fu : Nat) {x2 : Int32} {x3 : Int64} {M : Mm}, DX11_figuresOf_12  post fu x2 x3 M → VV X mX11_figuresOf rX11_figuresOf (pI_ post) 12 [(2, .inl x2), (3, .inr (.inl x3))] [] M 0 0
  | 0, _, _, _, h => False.elim h
  | fu + 1, _, _, _, h => bX11_figuresOf_12 (fun x2 x3 M h => loX11_figuresOf_12  fu h) h
set_option maxHeartbeats 4000000 in
set_option maxRecDepth 100000 in
theorem ctX11_figuresOf {X : Cx_} {a1 : Int64} {M : Mm} {post : Int32 → Mm → Prop} (h : PX11_figuresOf a1 M post) : CT X mX11_figuresOf rX11_figuresOf [.inr (.inl a1)] M (pI_ post) := by
  unfold PX11_figuresOf at h
  refine CT.of (by decide +kernel) (Nat.le_of_ble_eq_true rfl) ?_
  show VV X mX11_figuresOf rX11_figuresOf (pI_ post) 0 [(0, .inr (.inl a1))] [] M 0 0
  refine vv_lload_n (mi := mX11_figuresOf) (pc := 0) 0 dX11_figuresOf_0 rfl rfl ?_
  refine vv_lconst (mi := mX11_figuresOf) (pc := 1) 1 dX11_figuresOf_1 rfl ?_
  refine vv_lcmp (mi := mX11_figuresOf) (pc := 2) dX11_figuresOf_2 ?_
  refine vv_if_ge (mi := mX11_figuresOf) (pc := 3) 8 dX11_figuresOf_3 rfl (fun c1 => ?_) (fun c1 => ?_)
  · replace h := h.1 c1
    refine vv_iconst (mi := mX11_figuresOf) (pc := 8) 0 dX11_figuresOf_8 rfl ?_
    refine vv_istore_n (mi := mX11_figuresOf) (pc := 9) [(2, .inl 0), (0, .inr (.inl a1))] dX11_figuresOf_9 rfl (Nat.le_of_ble_eq_true rfl) rfl ?_
    refine vv_lload_n (mi := mX11_figuresOf) (pc := 10) 1 dX11_figuresOf_10 rfl rfl ?_
    refine vv_lstore_n (mi := mX11_figuresOf) (pc := 11) [(3, .inr (.inl a1)), (2, .inl 0), (0, .inr (.inl a1))] dX11_figuresOf_11 rfl (Nat.le_of_ble_eq_true rfl) rfl ?_
    refine vv_sub (mi := mX11_figuresOf) [(2, .inl 0), (3, .inr (.inl a1))] [1, 0] rfl ?_
    obtain ⟨fu, h⟩ := h
    exact loX11_figuresOf_12 (X := X)  fu h
  · replace h := h.2 c1
    refine vv_iconst (mi := mX11_figuresOf) (pc := 6) (-1) dX11_figuresOf_6 rfl ?_
    exact vv_iret (mi := mX11_figuresOf) (pc := 7) dX11_figuresOf_7 rfl (Nat.le_of_ble_eq_true rfl) (Nat.le_of_ble_eq_true rfl) h
set_option maxHeartbeats 4000000 in
set_option maxRecDepth 100000 in
theorem bX11_figureAt_10 {X : Cx_} {kb10 : Int32 → Int64 → Int32 → Mm → Prop} {post : Int32 → Mm → Prop} (hb10 : ∀ (x2 : Int32) (x3 : Int64) (x5 : Int32) (M : Mm), kb10 x2 x3 x5 M → VV X mX11_figureAt rX11_figureAt (pI_ post) 10 [(2, .inl x2), (3, .inr (.inl x3)), (5, .inl x5)] [] M 0 0) {x2 : Int32} {x3 : Int64} {x5 : Int32} {M : Mm} (h : BX11_figureAt_10 kb10 post x2 x3 x5 M) : VV X mX11_figureAt rX11_figureAt (pI_ post) 10 [(2, .inl x2), (3, .inr (.inl x3)), (5, .inl x5)] [] M 0 0 := by
  unfold BX11_figureAt_10 at h
  refine vv_iload (mi := mX11_figureAt) (pc := 10) 2 dX11_figureAt_10 rfl ?_
  refine vv_iload_n (mi := mX11_figureAt) (pc := 12) 0 dX11_figureAt_12 rfl rfl ?_
  refine vv_icmp_le (mi := mX11_figureAt) (pc := 13) 28 dX11_figureAt_13 rfl (fun c4 => ?_) (fun c4 => ?_)
  · replace h := h.1 c4
    refine vv_lload_n (mi := mX11_figureAt) (pc := 28) 1 dX11_figureAt_28 rfl rfl ?_
    refine vv_ldc2 (mi := mX11_figureAt) (pc := 29) 10 dX11_figureAt_29 kl_X11_120 ?_
    refine vv_lrem (mi := mX11_figureAt) (pc := 32) nzL_10 dX11_figureAt_32 ?_
    refine vv_l2i (mi := mX11_figureAt) (pc := 33) dX11_figureAt_33 ?_
    exact vv_iret (mi := mX11_figureAt) (pc := 34) dX11_figureAt_34 rfl (Nat.le_of_ble_eq_true rfl) (Nat.le_of_ble_eq_true rfl) h
  · replace h := h.2 c4
    refine vv_lload_n (mi := mX11_figureAt) (pc := 16) 1 dX11_figureAt_16 rfl rfl ?_
    refine vv_ldc2 (mi := mX11_figureAt) (pc := 17) 10 dX11_figureAt_17 kl_X11_120 ?_
    refine vv_ldiv (mi := mX11_figureAt) (pc := 20) nzL_10 dX11_figureAt_20 ?_
    obtain ⟨v5, ev5⟩ : ∃ z : Int64, z = (x3 / 10) := ⟨_, rfl⟩
    refine vv_namL ev5 ?_
    replace h := h _ ev5
    refine vv_lstore_n (mi := mX11_figureAt) (pc := 21) [(3, .inr (.inl v5)), (2, .inl x2), (5, .inl x5)] dX11_figureAt_21 rfl (Nat.le_of_ble_eq_true rfl) rfl ?_
    refine vv_iinc (mi := mX11_figureAt) (pc := 22) (x5 + (-1)) 2 [(5, .inl (x5 + (-1))), (3, .inr (.inl v5)), (2, .inl x2)] dX11_figureAt_22 rfl rfl (Nat.le_of_ble_eq_true rfl) rfl ?_
    refine vv_goto (mi := mX11_figureAt) (pc := 25) 10 dX11_figureAt_25 rfl ?_
    refine vv_sub (mi := mX11_figureAt) [(2, .inl x2), (3, .inr (.inl v5)), (5, .inl (x5 + (-1)))] [2, 1, 0] rfl ?_
    exact hb10 _ _ _ _ h
theorem loX11_figureAt_10 {X : Cx_}  {post : Int32 → Mm → Prop}  : ∀ (fu : Nat) {x2 : Int32} {x3 : Int64} {x5 : Int32} {M : Mm}, DX11_figureAt_10  post fu x2 x3 x5 M → VV X mX11_figureAt rX11_figureAt (pI_ post) 10 [(2, .inl x2), (3, .inr (.inl x3)), (5, .inl x5)] [] M 0 0
  | 0, _, _, _, _, h => False.elim h
  | fu + 1, _, _, _, _, h => bX11_figureAt_10 (fun x2 x3 x5 M h => loX11_figureAt_10  fu h) h
set_option maxHeartbeats 4000000 in
set_option maxRecDepth 100000 in
theorem ctX11_figureAt {X : Cx_} {a1 : Int64} {a2 : Int32} {M : Mm} {post : Int32 → Mm → Prop} (h : PX11_figureAt a1 a2 M post) : CT X mX11_figureAt rX11_figureAt [.inr (.inl a1), .inl a2] M (pI_ post) := by
  unfold PX11_figureAt at h
  refine CT.of (by decide +kernel) (Nat.le_of_ble_eq_true rfl) ?_
  show VV X mX11_figureAt rX11_figureAt (pI_ post) 0 [(0, .inr (.inl a1)), (2, .inl a2)] [] M 0 0
  refine vv_lload_n (mi := mX11_figureAt) (pc := 0) 0 dX11_figureAt_0 rfl rfl ?_
  refine vv_lstore_n (mi := mX11_figureAt) (pc := 1) [(3, .inr (.inl a1)), (0, .inr (.inl a1)), (2, .inl a2)] dX11_figureAt_1 rfl (Nat.le_of_ble_eq_true rfl) rfl ?_
  refine vv_lload_n (mi := mX11_figureAt) (pc := 2) 1 dX11_figureAt_2 rfl rfl ?_
  refine vv_callS (mi := mX11_figureAt) (pc := 3) (rest := []) (As := [.inr (.inl a1)]) (ctX11_figuresOf (X := X) h) dX11_figureAt_3 mb_X11_figuresOf rfl ml_X11_122 sc_X11_figuresOf ⟨(Nat.le_of_ble_eq_true rfl), (Nat.le_of_ble_eq_true rfl)⟩ ⟨(Nat.le_of_ble_eq_true rfl), (Nat.le_of_ble_eq_true rfl)⟩ (Nat.le_of_ble_eq_true rfl) rfl (kI_ (F := fun st M' => VV X mX11_figureAt rX11_figureAt (pI_ post) 6 [(3, .inr (.inl a1)), (0, .inr (.inl a1)), (2, .inl a2)] st M' 0 0) (fun r1 M2 h => ?_))
  refine vv_iconst (mi := mX11_figureAt) (pc := 6) 1 dX11_figureAt_6 rfl ?_
  refine vv_isub (mi := mX11_figureAt) (pc := 7) dX11_figureAt_7 ?_
  obtain ⟨v3, ev3⟩ : ∃ z : Int32, z = (r1 - 1) := ⟨_, rfl⟩
  refine vv_namI ev3 ?_
  replace h := h _ ev3
  refine vv_istore (mi := mX11_figureAt) (pc := 8) [(5, .inl v3), (3, .inr (.inl a1)), (0, .inr (.inl a1)), (2, .inl a2)] dX11_figureAt_8 (Nat.le_of_ble_eq_true rfl) rfl ?_
  refine vv_sub (mi := mX11_figureAt) [(2, .inl a2), (3, .inr (.inl a1)), (5, .inl v3)] [3, 1, 0] rfl ?_
  obtain ⟨fu, h⟩ := h
  exact loX11_figureAt_10 (X := X)  fu h
set_option maxHeartbeats 4000000 in
set_option maxRecDepth 100000 in
theorem ctX11_lengthOf {X : Cx_} {a1 : Int32} {M : Mm} {post : Int32 → Mm → Prop} (h : PX11_lengthOf a1 M post) : CT X mX11_lengthOf rX11_lengthOf [.inl a1] M (pI_ post) := by
  unfold PX11_lengthOf at h
  refine CT.of (by decide +kernel) (Nat.le_of_ble_eq_true rfl) ?_
  show VV X mX11_lengthOf rX11_lengthOf (pI_ post) 0 [(0, .inl a1)] [] M 0 0
  refine vv_iload_n (mi := mX11_lengthOf) (pc := 0) 0 dX11_lengthOf_0 rfl rfl ?_
  refine vv_i2l (mi := mX11_lengthOf) (pc := 1) dX11_lengthOf_1 ?_
  refine vv_callS (mi := mX11_lengthOf) (pc := 2) (rest := []) (As := [.inr (.inl (Int32.toInt64 a1))]) (ctX11_figuresOf (X := X) h) dX11_lengthOf_2 mb_X11_figuresOf rfl ml_X11_122 sc_X11_figuresOf ⟨(Nat.le_of_ble_eq_true rfl), (Nat.le_of_ble_eq_true rfl)⟩ ⟨(Nat.le_of_ble_eq_true rfl), (Nat.le_of_ble_eq_true rfl)⟩ (Nat.le_of_ble_eq_true rfl) rfl (kI_ (F := fun st M' => VV X mX11_lengthOf rX11_lengthOf (pI_ post) 5 [(0, .inl a1)] st M' 0 0) (fun r1 M2 h => ?_))
  exact vv_iret (mi := mX11_lengthOf) (pc := 5) dX11_lengthOf_5 rfl (Nat.le_of_ble_eq_true rfl) (Nat.le_of_ble_eq_true rfl) h
set_option maxHeartbeats 4000000 in
set_option maxRecDepth 100000 in
theorem bX11_numbersOf_46 {X : Cx_} {kb46 : Nat → Int32 → Int64 → Int32 → Mm → Prop} {post : Int64 → Mm → Prop} (hb46 : ∀ (this : Nat) (x1 : Int32) (x2 : Int64) (x4 : Int32) (M : Mm), kb46 this x1 x2 x4 M → VV X mX11_numbersOf rX11_numbersOf (pL_ post) 46 [(0, .inr (.inr (some this))), (1, .inl x1), (2, .inr (.inl x2)), (4, .inl x4)] [] M 0 0) {this : Nat} {x1 : Int32} {x2 : Int64} {x4 : Int32} {M : Mm} (h : BX11_numbersOf_46 kb46 post this x1 x2 x4 M) : VV X mX11_numbersOf rX11_numbersOf (pL_ post) 46 [(0, .inr (.inr (some this))), (1, .inl x1), (2, .inr (.inl x2)), (4, .inl x4)] [] M 0 0 := by
  unfold BX11_numbersOf_46 at h
  refine vv_iload (mi := mX11_numbersOf) (pc := 46) 3 dX11_numbersOf_46 rfl ?_
  refine vv_aload_n (mi := mX11_numbersOf) (pc := 48) 0 dX11_numbersOf_48 rfl rfl ?_
  obtain ⟨ht16, h⟩ := h
  refine vv_getR (mi := mX11_numbersOf) (pc := 49) 11 6 rfl ht16 fl_X11_22 (Nat.le_of_ble_eq_true rfl) dX11_numbersOf_49 ?_
  refine vv_iload_n (mi := mX11_numbersOf) (pc := 52) 1 dX11_numbersOf_52 rfl rfl ?_
  obtain ⟨aq17, hs18, h⟩ := h
  obtain ⟨ht19, h⟩ := h
  obtain ⟨hi20, h⟩ := h
  refine vv_iald (mi := mX11_numbersOf) (pc := 53) hs18 ht19 hi20 dX11_numbersOf_53 ?_
  refine vv_icmp_ge (mi := mX11_numbersOf) (pc := 54) 69 dX11_numbersOf_54 rfl (fun c21 => ?_) (fun c21 => ?_)
  · replace h := h.1 c21
    refine vv_lload_n (mi := mX11_numbersOf) (pc := 69) 2 dX11_numbersOf_69 rfl rfl ?_
    exact vv_lret (mi := mX11_numbersOf) (pc := 70) dX11_numbersOf_70 rfl (Nat.le_of_ble_eq_true rfl) (Nat.le_of_ble_eq_true rfl) h
  · replace h := h.2 c21
    refine vv_ldc2 (mi := mX11_numbersOf) (pc := 57) 10 dX11_numbersOf_57 kl_X11_120 ?_
    refine vv_lload_n (mi := mX11_numbersOf) (pc := 60) 2 dX11_numbersOf_60 rfl rfl ?_
    refine vv_lmul (mi := mX11_numbersOf) (pc := 61) dX11_numbersOf_61 ?_
    obtain ⟨v22, ev22⟩ : ∃ z : Int64, z = (10 * x2) := ⟨_, rfl⟩
    refine vv_namL ev22 ?_
    replace h := h _ ev22
    refine vv_lstore_n (mi := mX11_numbersOf) (pc := 62) [(2, .inr (.inl v22)), (0, .inr (.inr (some this))), (1, .inl x1), (4, .inl x4)] dX11_numbersOf_62 rfl (Nat.le_of_ble_eq_true rfl) rfl ?_
    refine vv_iinc (mi := mX11_numbersOf) (pc := 63) (x4 + 1) 3 [(4, .inl (x4 + 1)), (2, .inr (.inl v22)), (0, .inr (.inr (some this))), (1, .inl x1)] dX11_numbersOf_63 rfl rfl (Nat.le_of_ble_eq_true rfl) rfl ?_
    refine vv_goto (mi := mX11_numbersOf) (pc := 66) 46 dX11_numbersOf_66 rfl ?_
    refine vv_sub (mi := mX11_numbersOf) [(0, .inr (.inr (some this))), (1, .inl x1), (2, .inr (.inl v22)), (4, .inl (x4 + 1))] [2, 3, 1, 0] rfl ?_
    exact hb46 _ _ _ _ _ h
theorem loX11_numbersOf_46 {X : Cx_}  {post : Int64 → Mm → Prop}  : ∀ (fu : Nat) {this : Nat} {x1 : Int32} {x2 : Int64} {x4 : Int32} {M : Mm}, DX11_numbersOf_46  post fu this x1 x2 x4 M → VV X mX11_numbersOf rX11_numbersOf (pL_ post) 46 [(0, .inr (.inr (some this))), (1, .inl x1), (2, .inr (.inl x2)), (4, .inl x4)] [] M 0 0
  | 0, _, _, _, _, _, h => False.elim h
  | fu + 1, _, _, _, _, _, h => bX11_numbersOf_46 (fun this x1 x2 x4 M h => loX11_numbersOf_46  fu h) h
set_option maxHeartbeats 4000000 in
set_option maxRecDepth 100000 in
theorem bX11_numbersOf_5 {X : Cx_} {kb5 : Nat → Int32 → Int64 → Int32 → Mm → Prop} {post : Int64 → Mm → Prop} (hb5 : ∀ (this : Nat) (x1 : Int32) (x2 : Int64) (x4 : Int32) (M : Mm), kb5 this x1 x2 x4 M → VV X mX11_numbersOf rX11_numbersOf (pL_ post) 5 [(0, .inr (.inr (some this))), (1, .inl x1), (2, .inr (.inl x2)), (4, .inl x4)] [] M 0 0) {this : Nat} {x1 : Int32} {x2 : Int64} {x4 : Int32} {M : Mm} (h : BX11_numbersOf_5 kb5 post this x1 x2 x4 M) : VV X mX11_numbersOf rX11_numbersOf (pL_ post) 5 [(0, .inr (.inr (some this))), (1, .inl x1), (2, .inr (.inl x2)), (4, .inl x4)] [] M 0 0 := by
  unfold BX11_numbersOf_5 at h
  refine vv_iload (mi := mX11_numbersOf) (pc := 5) 3 dX11_numbersOf_5 rfl ?_
  refine vv_bipush (mi := mX11_numbersOf) (pc := 7) 10 dX11_numbersOf_7 rfl ?_
  refine vv_icmp_ge (mi := mX11_numbersOf) (pc := 9) 33 dX11_numbersOf_9 rfl (fun c1 => ?_) (fun c1 => ?_)
  · replace h := h.1 c1
    refine vv_aload_n (mi := mX11_numbersOf) (pc := 33) 0 dX11_numbersOf_33 rfl rfl ?_
    obtain ⟨ht2, h⟩ := h
    refine vv_getR (mi := mX11_numbersOf) (pc := 34) 11 4 rfl ht2 fl_X11_16 (Nat.le_of_ble_eq_true rfl) dX11_numbersOf_34 ?_
    refine vv_iload_n (mi := mX11_numbersOf) (pc := 37) 1 dX11_numbersOf_37 rfl rfl ?_
    obtain ⟨aq3, hs4, h⟩ := h
    obtain ⟨ht5, h⟩ := h
    obtain ⟨hi6, h⟩ := h
    refine vv_iald (mi := mX11_numbersOf) (pc := 38) hs4 ht5 hi6 dX11_numbersOf_38 ?_
    refine vv_callS (mi := mX11_numbersOf) (pc := 39) (rest := []) (As := [.inl (ddI M aq3 (Int32.toNatClampNeg x1))]) (ctX11_lengthOf (X := X) h) dX11_numbersOf_39 mb_X11_lengthOf rfl ml_X11_139 sc_X11_lengthOf ⟨(Nat.le_of_ble_eq_true rfl), (Nat.le_of_ble_eq_true rfl)⟩ ⟨(Nat.le_of_ble_eq_true rfl), (Nat.le_of_ble_eq_true rfl)⟩ (Nat.le_of_ble_eq_true rfl) rfl (kI_ (F := fun st M' => VV X mX11_numbersOf rX11_numbersOf (pL_ post) 42 [(0, .inr (.inr (some this))), (1, .inl x1), (2, .inr (.inl x2)), (4, .inl x4)] st M' 0 0) (fun r7 M8 h => ?_))
    refine vv_iconst (mi := mX11_numbersOf) (pc := 42) 1 dX11_numbersOf_42 rfl ?_
    refine vv_iadd (mi := mX11_numbersOf) (pc := 43) dX11_numbersOf_43 ?_
    obtain ⟨v9, ev9⟩ : ∃ z : Int32, z = (r7 + 1) := ⟨_, rfl⟩
    refine vv_namI ev9 ?_
    replace h := h _ ev9
    refine vv_istore (mi := mX11_numbersOf) (pc := 44) [(4, .inl v9), (0, .inr (.inr (some this))), (1, .inl x1), (2, .inr (.inl x2))] dX11_numbersOf_44 (Nat.le_of_ble_eq_true rfl) rfl ?_
    refine vv_sub (mi := mX11_numbersOf) [(0, .inr (.inr (some this))), (1, .inl x1), (2, .inr (.inl x2)), (4, .inl v9)] [1, 2, 3, 0] rfl ?_
    obtain ⟨fu, h⟩ := h
    exact loX11_numbersOf_46 (X := X)  fu h
  · replace h := h.2 c1
    refine vv_lload_n (mi := mX11_numbersOf) (pc := 12) 2 dX11_numbersOf_12 rfl rfl ?_
    refine vv_aload_n (mi := mX11_numbersOf) (pc := 13) 0 dX11_numbersOf_13 rfl rfl ?_
    obtain ⟨ht10, h⟩ := h
    refine vv_getR (mi := mX11_numbersOf) (pc := 14) 11 5 rfl ht10 fl_X11_19 (Nat.le_of_ble_eq_true rfl) dX11_numbersOf_14 ?_
    refine vv_iload_n (mi := mX11_numbersOf) (pc := 17) 1 dX11_numbersOf_17 rfl rfl ?_
    obtain ⟨aq11, hs12, h⟩ := h
    obtain ⟨ht13, h⟩ := h
    obtain ⟨hi14, h⟩ := h
    refine vv_iald (mi := mX11_numbersOf) (pc := 18) hs12 ht13 hi14 dX11_numbersOf_18 ?_
    refine vv_iload (mi := mX11_numbersOf) (pc := 19) 3 dX11_numbersOf_19 rfl ?_
    refine vv_ishr (mi := mX11_numbersOf) (pc := 21) dX11_numbersOf_21 ?_
    refine vv_iconst (mi := mX11_numbersOf) (pc := 22) 1 dX11_numbersOf_22 rfl ?_
    refine vv_iand (mi := mX11_numbersOf) (pc := 23) dX11_numbersOf_23 ?_
    refine vv_i2l (mi := mX11_numbersOf) (pc := 24) dX11_numbersOf_24 ?_
    refine vv_ladd (mi := mX11_numbersOf) (pc := 25) dX11_numbersOf_25 ?_
    obtain ⟨v15, ev15⟩ : ∃ z : Int64, z = (x2 + (Int32.toInt64 (((ddI M aq11 (Int32.toNatClampNeg x1)) >>> (x4 &&& 31)) &&& 1))) := ⟨_, rfl⟩
    refine vv_namL ev15 ?_
    replace h := h _ ev15
    refine vv_lstore_n (mi := mX11_numbersOf) (pc := 26) [(2, .inr (.inl v15)), (0, .inr (.inr (some this))), (1, .inl x1), (4, .inl x4)] dX11_numbersOf_26 rfl (Nat.le_of_ble_eq_true rfl) rfl ?_
    refine vv_iinc (mi := mX11_numbersOf) (pc := 27) (x4 + 1) 3 [(4, .inl (x4 + 1)), (2, .inr (.inl v15)), (0, .inr (.inr (some this))), (1, .inl x1)] dX11_numbersOf_27 rfl rfl (Nat.le_of_ble_eq_true rfl) rfl ?_
    refine vv_goto (mi := mX11_numbersOf) (pc := 30) 5 dX11_numbersOf_30 rfl ?_
    refine vv_sub (mi := mX11_numbersOf) [(0, .inr (.inr (some this))), (1, .inl x1), (2, .inr (.inl v15)), (4, .inl (x4 + 1))] [2, 3, 1, 0] rfl ?_
    exact hb5 _ _ _ _ _ h
theorem loX11_numbersOf_5 {X : Cx_}  {post : Int64 → Mm → Prop}  : ∀ (fu : Nat) {this : Nat} {x1 : Int32} {x2 : Int64} {x4 : Int32} {M : Mm}, DX11_numbersOf_5  post fu this x1 x2 x4 M → VV X mX11_numbersOf rX11_numbersOf (pL_ post) 5 [(0, .inr (.inr (some this))), (1, .inl x1), (2, .inr (.inl x2)), (4, .inl x4)] [] M 0 0
  | 0, _, _, _, _, _, h => False.elim h
  | fu + 1, _, _, _, _, _, h => bX11_numbersOf_5 (fun this x1 x2 x4 M h => loX11_numbersOf_5  fu h) h
set_option maxHeartbeats 4000000 in
set_option maxRecDepth 100000 in
theorem ctX11_numbersOf {X : Cx_} {this : Nat} {a1 : Int32} {M : Mm} {post : Int64 → Mm → Prop} (h : PX11_numbersOf this a1 M post) : CT X mX11_numbersOf rX11_numbersOf [.inr (.inr (some this)), .inl a1] M (pL_ post) := by
  unfold PX11_numbersOf at h
  refine CT.of (by decide +kernel) (Nat.le_of_ble_eq_true rfl) ?_
  show VV X mX11_numbersOf rX11_numbersOf (pL_ post) 0 [(0, .inr (.inr (some this))), (1, .inl a1)] [] M 0 0
  refine vv_lconst (mi := mX11_numbersOf) (pc := 0) 0 dX11_numbersOf_0 rfl ?_
  refine vv_lstore_n (mi := mX11_numbersOf) (pc := 1) [(2, .inr (.inl 0)), (0, .inr (.inr (some this))), (1, .inl a1)] dX11_numbersOf_1 rfl (Nat.le_of_ble_eq_true rfl) rfl ?_
  refine vv_iconst (mi := mX11_numbersOf) (pc := 2) 0 dX11_numbersOf_2 rfl ?_
  refine vv_istore (mi := mX11_numbersOf) (pc := 3) [(4, .inl 0), (2, .inr (.inl 0)), (0, .inr (.inr (some this))), (1, .inl a1)] dX11_numbersOf_3 (Nat.le_of_ble_eq_true rfl) rfl ?_
  refine vv_sub (mi := mX11_numbersOf) [(0, .inr (.inr (some this))), (1, .inl a1), (2, .inr (.inl 0)), (4, .inl 0)] [2, 3, 1, 0] rfl ?_
  obtain ⟨fu, h⟩ := h
  exact loX11_numbersOf_5 (X := X)  fu h
