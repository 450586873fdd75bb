set_option maxHeartbeats 4000000 in
set_option maxRecDepth 100000 in
theorem ctX0_init {X : Cx_} {this : Nat} {M : Mm} {post : Mm → Prop} (h : PX0_init this M post) : CT X mX0_init rX0_init [.inr (.inr (some this))] M (pV_ post) := by
  unfold PX0_init at h
  refine CT.of (by decide +kernel) (Nat.le_of_ble_eq_true rfl) ?_
  show VV X mX0_init rX0_init (pV_ post) 0 [(0, .inr (.inr (some this)))] [] M 0 0
  refine vv_aload_n (mi := mX0_init) (pc := 0) 0 dX0_init_0 rfl rfl ?_
  refine vv_objInit (mi := mX0_init) (pc := 1) dX0_init_1 oi_X0_3 im_obj co_obj (Nat.le_of_ble_eq_true rfl) (Nat.le_of_ble_eq_true rfl) (Nat.le_of_ble_eq_true rfl) ?_
  exact vv_vret (mi := mX0_init) (pc := 4) dX0_init_4 rfl (Nat.le_of_ble_eq_true rfl) (Nat.le_of_ble_eq_true rfl) h
set_option maxHeartbeats 4000000 in
set_option maxRecDepth 100000 in
theorem ctX0_begin {X : Cx_} {this : Nat} {a1 : Int32} {M : Mm} {post : Mm → Prop} (h : PX0_begin this a1 M post) : CT X mX0_begin rX0_begin [.inr (.inr (some this)), .inl a1] M (pV_ post) := by
  unfold PX0_begin at h
  refine CT.of (by decide +kernel) (Nat.le_of_ble_eq_true rfl) ?_
  show VV X mX0_begin rX0_begin (pV_ post) 0 [(0, .inr (.inr (some this))), (1, .inl a1)] [] M 0 0
  refine vv_aload_n (mi := mX0_begin) (pc := 0) 0 dX0_begin_0 rfl rfl ?_
  refine vv_iconst (mi := mX0_begin) (pc := 1) 1 dX0_begin_1 rfl ?_
  obtain ⟨ht1, h⟩ := h
  obtain ⟨M2, eM2⟩ : ∃ z : Mm, z = suI M this 0 1 := ⟨_, rfl⟩
  replace h := h _ eM2
  refine vv_putZ (mi := mX0_begin) (pc := 2) 0 0 (Or.inr rfl) rfl ht1 fq_X0_9 (fun q => by cases q) rfl (Nat.le_of_ble_eq_true rfl) dX0_begin_2 eM2 ?_
  refine vv_aload_n (mi := mX0_begin) (pc := 5) 0 dX0_begin_5 rfl rfl ?_
  refine vv_iconst (mi := mX0_begin) (pc := 6) 0 dX0_begin_6 rfl ?_
  obtain ⟨M3, eM3⟩ : ∃ z : Mm, z = suI M2 this 1 0 := ⟨_, rfl⟩
  replace h := h _ eM3
  refine vv_putZ (mi := mX0_begin) (pc := 7) 0 1 (Or.inl rfl) rfl (tgI_ eM2 ht1) fq_X0_15 (fun q => by cases q) rfl (Nat.le_of_ble_eq_true rfl) dX0_begin_7 eM3 ?_
  refine vv_aload_n (mi := mX0_begin) (pc := 10) 0 dX0_begin_10 rfl rfl ?_
  refine vv_iload_n (mi := mX0_begin) (pc := 11) 1 dX0_begin_11 rfl rfl ?_
  obtain ⟨M4, eM4⟩ : ∃ z : Mm, z = suI M3 this 2 a1 := ⟨_, rfl⟩
  replace h := h _ eM4
  refine vv_putI (mi := mX0_begin) (pc := 12) 0 2 rfl (tgI_ eM3 (tgI_ eM2 ht1)) fq_X0_18 (fun q => by cases q) rfl (Nat.le_of_ble_eq_true rfl) dX0_begin_12 eM4 ?_
  refine vv_aload_n (mi := mX0_begin) (pc := 15) 0 dX0_begin_15 rfl rfl ?_
  refine vv_iconst (mi := mX0_begin) (pc := 16) (-1) dX0_begin_16 rfl ?_
  obtain ⟨M5, eM5⟩ : ∃ z : Mm, z = suI M4 this 3 (-1) := ⟨_, rfl⟩
  replace h := h _ eM5
  refine vv_putI (mi := mX0_begin) (pc := 17) 0 3 rfl (tgI_ eM4 (tgI_ eM3 (tgI_ eM2 ht1))) fq_X0_22 (fun q => by cases q) rfl (Nat.le_of_ble_eq_true rfl) dX0_begin_17 eM5 ?_
  refine vv_aload_n (mi := mX0_begin) (pc := 20) 0 dX0_begin_20 rfl rfl ?_
  refine vv_iconst (mi := mX0_begin) (pc := 21) 0 dX0_begin_21 rfl ?_
  obtain ⟨M6, eM6⟩ : ∃ z : Mm, z = suI M5 this 4 0 := ⟨_, rfl⟩
  replace h := h _ eM6
  refine vv_putI (mi := mX0_begin) (pc := 22) 0 4 rfl (tgI_ eM5 (tgI_ eM4 (tgI_ eM3 (tgI_ eM2 ht1)))) fq_X0_25 (fun q => by cases q) rfl (Nat.le_of_ble_eq_true rfl) dX0_begin_22 eM6 ?_
  refine vv_aload_n (mi := mX0_begin) (pc := 25) 0 dX0_begin_25 rfl rfl ?_
  refine vv_lconst (mi := mX0_begin) (pc := 26) 1 dX0_begin_26 rfl ?_
  obtain ⟨M7, eM7⟩ : ∃ z : Mm, z = suL M6 this 5 1 := ⟨_, rfl⟩
  replace h := h _ eM7
  refine vv_putL (mi := mX0_begin) (pc := 27) 0 5 rfl (tgI_ eM6 (tgI_ eM5 (tgI_ eM4 (tgI_ eM3 (tgI_ eM2 ht1))))) fq_X0_28 (fun q => by cases q) rfl (Nat.le_of_ble_eq_true rfl) dX0_begin_27 eM7 ?_
  exact vv_vret (mi := mX0_begin) (pc := 30) dX0_begin_30 rfl (Nat.le_of_ble_eq_true rfl) (Nat.le_of_ble_eq_true rfl) h
set_option maxHeartbeats 4000000 in
set_option maxRecDepth 100000 in
theorem ctX0_isOpen {X : Cx_} {this : Nat} {M : Mm} {post : Int32 → Mm → Prop} (h : PX0_isOpen this M post) : CT X mX0_isOpen rX0_isOpen [.inr (.inr (some this))] M (pI_ post) := by
  unfold PX0_isOpen at h
  refine CT.of (by decide +kernel) (Nat.le_of_ble_eq_true rfl) ?_
  show VV X mX0_isOpen rX0_isOpen (pI_ post) 0 [(0, .inr (.inr (some this)))] [] M 0 0
  refine vv_aload_n (mi := mX0_isOpen) (pc := 0) 0 dX0_isOpen_0 rfl rfl ?_
  obtain ⟨ht1, h⟩ := h
  refine vv_getI (mi := mX0_isOpen) (pc := 1) 0 0 rfl ht1 fl_X0_9 (Nat.le_of_ble_eq_true rfl) dX0_isOpen_1 ?_
  refine vv_if_eq (mi := mX0_isOpen) (pc := 4) 18 dX0_isOpen_4 rfl (fun c2 => ?_) (fun c2 => ?_)
  · replace h := h.1 c2
    refine vv_iconst (mi := mX0_isOpen) (pc := 18) 0 dX0_isOpen_18 rfl ?_
    exact vv_zret (mi := mX0_isOpen) (pc := 19) dX0_isOpen_19 rfl (Or.inl rfl) (Nat.le_of_ble_eq_true rfl) (Nat.le_of_ble_eq_true rfl) h
  · replace h := h.2 c2
    refine vv_aload_n (mi := mX0_isOpen) (pc := 7) 0 dX0_isOpen_7 rfl rfl ?_
    refine vv_getI (mi := mX0_isOpen) (pc := 8) 0 1 rfl ht1 fl_X0_15 (Nat.le_of_ble_eq_true rfl) dX0_isOpen_8 ?_
    refine vv_if_ne (mi := mX0_isOpen) (pc := 11) 18 dX0_isOpen_11 rfl (fun c3 => ?_) (fun c3 => ?_)
    · replace h := h.1 c3
      refine vv_iconst (mi := mX0_isOpen) (pc := 18) 0 dX0_isOpen_18 rfl ?_
      exact vv_zret (mi := mX0_isOpen) (pc := 19) dX0_isOpen_19 rfl (Or.inl rfl) (Nat.le_of_ble_eq_true rfl) (Nat.le_of_ble_eq_true rfl) h
    · replace h := h.2 c3
      refine vv_iconst (mi := mX0_isOpen) (pc := 14) 1 dX0_isOpen_14 rfl ?_
      refine vv_goto (mi := mX0_isOpen) (pc := 15) 19 dX0_isOpen_15 rfl ?_
      exact vv_zret (mi := mX0_isOpen) (pc := 19) dX0_isOpen_19 rfl (Or.inr rfl) (Nat.le_of_ble_eq_true rfl) (Nat.le_of_ble_eq_true rfl) h
set_option maxHeartbeats 4000000 in
set_option maxRecDepth 100000 in
theorem ctX0_hear {X : Cx_} {this : Nat} {a1 : Int32} {M : Mm} {post : Mm → Prop} (h : PX0_hear this a1 M post) : CT X mX0_hear rX0_hear [.inr (.inr (some this)), .inl a1] M (pV_ post) := by
  unfold PX0_hear at h
  refine CT.of (by decide +kernel) (Nat.le_of_ble_eq_true rfl) ?_
  show VV X mX0_hear rX0_hear (pV_ post) 0 [(0, .inr (.inr (some this))), (1, .inl a1)] [] M 0 0
  refine vv_aload_n (mi := mX0_hear) (pc := 0) 0 dX0_hear_0 rfl rfl ?_
  refine vv_aload_n (mi := mX0_hear) (pc := 1) 0 dX0_hear_1 rfl rfl ?_
  obtain ⟨ht1, h⟩ := h
  refine vv_getL (mi := mX0_hear) (pc := 2) 0 5 rfl ht1 fl_X0_28 (Nat.le_of_ble_eq_true rfl) dX0_hear_2 ?_
  refine vv_ldc2 (mi := mX0_hear) (pc := 5) 10 dX0_hear_5 kl_X0_32 ?_
  refine vv_lmul (mi := mX0_hear) (pc := 8) dX0_hear_8 ?_
  refine vv_iload_n (mi := mX0_hear) (pc := 9) 1 dX0_hear_9 rfl rfl ?_
  refine vv_i2l (mi := mX0_hear) (pc := 10) dX0_hear_10 ?_
  refine vv_ladd (mi := mX0_hear) (pc := 11) dX0_hear_11 ?_
  obtain ⟨M2, eM2⟩ : ∃ z : Mm, z = suL M this 5 (((ddL M this 5) * 10) + (Int32.toInt64 a1)) := ⟨_, rfl⟩
  replace h := h _ eM2
  refine vv_putL (mi := mX0_hear) (pc := 12) 0 5 rfl ht1 fq_X0_28 (fun q => by cases q) rfl (Nat.le_of_ble_eq_true rfl) dX0_hear_12 eM2 ?_
  refine vv_aload_n (mi := mX0_hear) (pc := 15) 0 dX0_hear_15 rfl rfl ?_
  refine vv_dup (mi := mX0_hear) (pc := 16) dX0_hear_16 rfl ?_
  refine vv_getI (mi := mX0_hear) (pc := 17) 0 4 rfl (tgL_ eM2 ht1) fl_X0_25 (Nat.le_of_ble_eq_true rfl) dX0_hear_17 ?_
  refine vv_iconst (mi := mX0_hear) (pc := 20) 1 dX0_hear_20 rfl ?_
  refine vv_iadd (mi := mX0_hear) (pc := 21) dX0_hear_21 ?_
  obtain ⟨M3, eM3⟩ : ∃ z : Mm, z = suI M2 this 4 ((ddI M2 this 4) + 1) := ⟨_, rfl⟩
  replace h := h _ eM3
  refine vv_putI (mi := mX0_hear) (pc := 22) 0 4 rfl (tgL_ eM2 ht1) fq_X0_25 (fun q => by cases q) rfl (Nat.le_of_ble_eq_true rfl) dX0_hear_22 eM3 ?_
  exact vv_vret (mi := mX0_hear) (pc := 25) dX0_hear_25 rfl (Nat.le_of_ble_eq_true rfl) (Nat.le_of_ble_eq_true rfl) h
set_option maxHeartbeats 4000000 in
set_option maxRecDepth 100000 in
theorem ctX1_init {X : Cx_} {this : Nat} {a1 : Int32} {M : Mm} {post : Mm → Prop} (h : PX1_init this a1 M post) : CT X mX1_init rX1_init [.inr (.inr (some this)), .inl a1] M (pV_ post) := by
  unfold PX1_init at h
  refine CT.of (by decide +kernel) (Nat.le_of_ble_eq_true rfl) ?_
  show VV X mX1_init rX1_init (pV_ post) 0 [(0, .inr (.inr (some this))), (1, .inl a1)] [] M 0 0
  refine vv_aload_n (mi := mX1_init) (pc := 0) 0 dX1_init_0 rfl rfl ?_
  refine vv_objInit (mi := mX1_init) (pc := 1) dX1_init_1 oi_X1_3 im_obj co_obj (Nat.le_of_ble_eq_true rfl) (Nat.le_of_ble_eq_true rfl) (Nat.le_of_ble_eq_true rfl) ?_
  refine vv_aload_n (mi := mX1_init) (pc := 4) 0 dX1_init_4 rfl rfl ?_
  refine vv_iload_n (mi := mX1_init) (pc := 5) 1 dX1_init_5 rfl rfl ?_
  obtain ⟨ht1, h⟩ := h
  obtain ⟨M2, eM2⟩ : ∃ z : Mm, z = suI M this 0 a1 := ⟨_, rfl⟩
  replace h := h _ eM2
  refine vv_putI (mi := mX1_init) (pc := 6) 1 0 rfl ht1 fq_X1_9 (fun _ => rfl) rfl (Nat.le_of_ble_eq_true rfl) dX1_init_6 eM2 ?_
  exact vv_vret (mi := mX1_init) (pc := 9) dX1_init_9 rfl (Nat.le_of_ble_eq_true rfl) (Nat.le_of_ble_eq_true rfl) h
set_option maxHeartbeats 4000000 in
set_option maxRecDepth 100000 in
theorem ctX1_askedIn {X : Cx_} {this : Nat} {a1 : Int32} {M : Mm} {post : Int64 → Mm → Prop} (h : PX1_askedIn this a1 M post) : CT X mX1_askedIn rX1_askedIn [.inr (.inr (some this)), .inl a1] M (pL_ post) := by
  unfold PX1_askedIn at h
  refine CT.of (by decide +kernel) (Nat.le_of_ble_eq_true rfl) ?_
  show VV X mX1_askedIn rX1_askedIn (pL_ post) 0 [(0, .inr (.inr (some this))), (1, .inl a1)] [] M 0 0
  refine vv_aload_n (mi := mX1_askedIn) (pc := 0) 0 dX1_askedIn_0 rfl rfl ?_
  obtain ⟨ht1, h⟩ := h
  refine vv_getI (mi := mX1_askedIn) (pc := 1) 1 1 rfl ht1 fl_X1_15 (Nat.le_of_ble_eq_true rfl) dX1_askedIn_1 ?_
  refine vv_i2l (mi := mX1_askedIn) (pc := 4) dX1_askedIn_4 ?_
  refine vv_aload_n (mi := mX1_askedIn) (pc := 5) 0 dX1_askedIn_5 rfl rfl ?_
  refine vv_getI (mi := mX1_askedIn) (pc := 6) 1 2 rfl ht1 fl_X1_18 (Nat.le_of_ble_eq_true rfl) dX1_askedIn_6 ?_
  refine vv_i2l (mi := mX1_askedIn) (pc := 9) dX1_askedIn_9 ?_
  refine vv_iload_n (mi := mX1_askedIn) (pc := 10) 1 dX1_askedIn_10 rfl rfl ?_
  refine vv_i2l (mi := mX1_askedIn) (pc := 11) dX1_askedIn_11 ?_
  refine vv_lmul (mi := mX1_askedIn) (pc := 12) dX1_askedIn_12 ?_
  refine vv_ladd (mi := mX1_askedIn) (pc := 13) dX1_askedIn_13 ?_
  exact vv_lret (mi := mX1_askedIn) (pc := 14) dX1_askedIn_14 rfl (Nat.le_of_ble_eq_true rfl) (Nat.le_of_ble_eq_true rfl) h
set_option maxHeartbeats 4000000 in
set_option maxRecDepth 100000 in
theorem ctJ9_min_f86c9 {X : Cx_} {a1 : Int64} {a2 : Int64} {M : Mm} {post : Int64 → Mm → Prop} (h : PJ9_min_f86c9 a1 a2 M post) : CT X mJ9_min_f86c9 rJ9_min_f86c9 [.inr (.inl a1), .inr (.inl a2)] M (pL_ post) := by
  unfold PJ9_min_f86c9 at h
  refine CT.ofF (by decide +kernel) (Nat.le_of_ble_eq_true rfl) ?_
  show VV X mJ9_min_f86c9 rJ9_min_f86c9 (pL_ post) 0 [(0, .inr (.inl a1)), (2, .inr (.inl a2))] [] M 0 0
  refine vv_lload_n (mi := mJ9_min_f86c9) (pc := 0) 0 dJ9_min_f86c9_0 rfl rfl ?_
  refine vv_lload_n (mi := mJ9_min_f86c9) (pc := 1) 1 dJ9_min_f86c9_1 rfl rfl ?_
  refine vv_lcmp (mi := mJ9_min_f86c9) (pc := 2) dJ9_min_f86c9_2 ?_
  refine vv_if_gt (mi := mJ9_min_f86c9) (pc := 3) 10 dJ9_min_f86c9_3 rfl (fun c1 => ?_) (fun c1 => ?_)
  · replace h := h.1 c1
    refine vv_lload_n (mi := mJ9_min_f86c9) (pc := 10) 1 dJ9_min_f86c9_10 rfl rfl ?_
    exact vv_lret (mi := mJ9_min_f86c9) (pc := 11) dJ9_min_f86c9_11 rfl (Nat.le_of_ble_eq_true rfl) (Nat.le_of_ble_eq_true rfl) h
  · replace h := h.2 c1
    refine vv_lload_n (mi := mJ9_min_f86c9) (pc := 6) 0 dJ9_min_f86c9_6 rfl rfl ?_
    refine vv_goto (mi := mJ9_min_f86c9) (pc := 7) 11 dJ9_min_f86c9_7 rfl ?_
    exact vv_lret (mi := mJ9_min_f86c9) (pc := 11) dJ9_min_f86c9_11 rfl (Nat.le_of_ble_eq_true rfl) (Nat.le_of_ble_eq_true rfl) h
set_option maxHeartbeats 4000000 in
set_option maxRecDepth 100000 in
theorem ctX1_firstAbove {X : Cx_} {this : Nat} {a1 : Int64} {a2 : Int32} {M : Mm} {post : Int32 → Mm → Prop} (h : PX1_firstAbove this a1 a2 M post) : CT X mX1_firstAbove rX1_firstAbove [.inr (.inr (some this)), .inr (.inl a1), .inl a2] M (pI_ post) := by
  unfold PX1_firstAbove at h
  refine CT.of (by decide +kernel) (Nat.le_of_ble_eq_true rfl) ?_
  show VV X mX1_firstAbove rX1_firstAbove (pI_ post) 0 [(0, .inr (.inr (some this))), (1, .inr (.inl a1)), (3, .inl a2)] [] M 0 0
  refine vv_aload_n (mi := mX1_firstAbove) (pc := 0) 0 dX1_firstAbove_0 rfl rfl ?_
  refine vv_iload_n (mi := mX1_firstAbove) (pc := 1) 2 dX1_firstAbove_1 rfl rfl ?_
  obtain ⟨ht1, h⟩ := h
  refine vv_callV (mi := mX1_firstAbove) (pc := 2) (rest := []) (As := [.inl a2]) (ctX1_askedIn (X := X) h) dX1_firstAbove_2 rfl ht1 (Nat.le_of_ble_eq_true rfl) rfl mb_X1_askedIn rfl ml_X1_21 im_X1_askedIn se_X1_askedIn ⟨(Nat.le_of_ble_eq_true rfl), (Nat.le_of_ble_eq_true rfl)⟩ ⟨(Nat.le_of_ble_eq_true rfl), (Nat.le_of_ble_eq_true rfl)⟩ (Nat.le_of_ble_eq_true rfl) rfl (kL_ (F := fun st M' => VV X mX1_firstAbove rX1_firstAbove (pI_ post) 5 [(0, .inr (.inr (some this))), (1, .inr (.inl a1)), (3, .inl a2)] st M' 0 0) (fun r2 M3 h => ?_))
  refine vv_lload_n (mi := mX1_firstAbove) (pc := 5) 1 dX1_firstAbove_5 rfl rfl ?_
  refine vv_lcmp (mi := mX1_firstAbove) (pc := 6) dX1_firstAbove_6 ?_
  refine vv_if_le (mi := mX1_firstAbove) (pc := 7) 12 dX1_firstAbove_7 rfl (fun c4 => ?_) (fun c4 => ?_)
  · replace h := h.1 c4
    refine vv_aload_n (mi := mX1_firstAbove) (pc := 12) 0 dX1_firstAbove_12 rfl rfl ?_
    obtain ⟨ht5, h⟩ := h
    refine vv_getI (mi := mX1_firstAbove) (pc := 13) 1 2 rfl ht5 fl_X1_18 (Nat.le_of_ble_eq_true rfl) dX1_firstAbove_13 ?_
    refine vv_if_gt (mi := mX1_firstAbove) (pc := 16) 23 dX1_firstAbove_16 rfl (fun c6 => ?_) (fun c6 => ?_)
    · replace h := h.1 c6
      refine vv_ldc2 (mi := mX1_firstAbove) (pc := 23) 2001 dX1_firstAbove_23 kl_X1_25 ?_
      refine vv_lload_n (mi := mX1_firstAbove) (pc := 26) 1 dX1_firstAbove_26 rfl rfl ?_
      refine vv_aload_n (mi := mX1_firstAbove) (pc := 27) 0 dX1_firstAbove_27 rfl rfl ?_
      refine vv_getI (mi := mX1_firstAbove) (pc := 28) 1 1 rfl ht5 fl_X1_15 (Nat.le_of_ble_eq_true rfl) dX1_firstAbove_28 ?_
      refine vv_i2l (mi := mX1_firstAbove) (pc := 31) dX1_firstAbove_31 ?_
      refine vv_lsub (mi := mX1_firstAbove) (pc := 32) dX1_firstAbove_32 ?_
      refine vv_aload_n (mi := mX1_firstAbove) (pc := 33) 0 dX1_firstAbove_33 rfl rfl ?_
      refine vv_getI (mi := mX1_firstAbove) (pc := 34) 1 2 rfl ht5 fl_X1_18 (Nat.le_of_ble_eq_true rfl) dX1_firstAbove_34 ?_
      refine vv_i2l (mi := mX1_firstAbove) (pc := 37) dX1_firstAbove_37 ?_
      obtain ⟨hz7, h⟩ := h
      refine vv_ldiv (mi := mX1_firstAbove) (pc := 38) hz7 dX1_firstAbove_38 ?_
      refine vv_lconst (mi := mX1_firstAbove) (pc := 39) 1 dX1_firstAbove_39 rfl ?_
      refine vv_ladd (mi := mX1_firstAbove) (pc := 40) dX1_firstAbove_40 ?_
      refine vv_callS (mi := mX1_firstAbove) (pc := 41) (rest := []) (As := [.inr (.inl 2001), .inr (.inl (((a1 - (Int32.toInt64 (ddI M3 this 1))) / (Int32.toInt64 (ddI M3 this 2))) + 1))]) (ctJ9_min_f86c9 (X := X) h) dX1_firstAbove_41 mb_J9_min_f86c9 rfl ml_X1_27 sc_J9_min_f86c9 ⟨(Nat.le_of_ble_eq_true rfl), (Nat.le_of_ble_eq_true rfl)⟩ ⟨(Nat.le_of_ble_eq_true rfl), (Nat.le_of_ble_eq_true rfl)⟩ (Nat.le_of_ble_eq_true rfl) rfl (kL_ (F := fun st M' => VV X mX1_firstAbove rX1_firstAbove (pI_ post) 44 [(0, .inr (.inr (some this))), (1, .inr (.inl a1)), (3, .inl a2)] st M' 0 0) (fun r8 M9 h => ?_))
      refine vv_l2i (mi := mX1_firstAbove) (pc := 44) dX1_firstAbove_44 ?_
      exact vv_iret (mi := mX1_firstAbove) (pc := 45) dX1_firstAbove_45 rfl (Nat.le_of_ble_eq_true rfl) (Nat.le_of_ble_eq_true rfl) h
    · replace h := h.2 c6
      refine vv_sipush (mi := mX1_firstAbove) (pc := 19) 2001 dX1_firstAbove_19 rfl ?_
      exact vv_iret (mi := mX1_firstAbove) (pc := 22) dX1_firstAbove_22 rfl (Nat.le_of_ble_eq_true rfl) (Nat.le_of_ble_eq_true rfl) h
  · replace h := h.2 c4
    refine vv_iload_n (mi := mX1_firstAbove) (pc := 10) 2 dX1_firstAbove_10 rfl rfl ?_
    exact vv_iret (mi := mX1_firstAbove) (pc := 11) dX1_firstAbove_11 rfl (Nat.le_of_ble_eq_true rfl) (Nat.le_of_ble_eq_true rfl) h
set_option maxHeartbeats 4000000 in
set_option maxRecDepth 100000 in
theorem bX10_placesOf_2 {X : Cx_} {kb2 : Int64 → Int32 → Mm → Prop} {post : Int32 → Mm → Prop} (hb2 : ∀ (x0 : Int64) (x2 : Int32) (M : Mm), kb2 x0 x2 M → VV X mX10_placesOf rX10_placesOf (pI_ post) 2 [(0, .inr (.inl x0)), (2, .inl x2)] [] M 0 0) {x0 : Int64} {x2 : Int32} {M : Mm} (h : BX10_placesOf_2 kb2 post x0 x2 M) : VV X mX10_placesOf rX10_placesOf (pI_ post) 2 [(0, .inr (.inl x0)), (2, .inl x2)] [] M 0 0 := by
  unfold BX10_placesOf_2 at h
  refine vv_iload_n (mi := mX10_placesOf) (pc := 2) 1 dX10_placesOf_2 rfl rfl ?_
  refine vv_gets (mi := mX10_placesOf) (pc := 3) gs_X10_294 dX10_placesOf_3 ?_
  refine vv_tlen (mi := mX10_placesOf) (pc := 6) dX10_placesOf_6 ?_
  refine vv_icmp_ge (mi := mX10_placesOf) (pc := 7) 42 dX10_placesOf_7 rfl (fun c1 => ?_) (fun c1 => ?_)
  · replace h := h.1 c1
    refine vv_iconst (mi := mX10_placesOf) (pc := 42) (-1) dX10_placesOf_42 rfl ?_
    exact vv_iret (mi := mX10_placesOf) (pc := 43) dX10_placesOf_43 rfl (Nat.le_of_ble_eq_true rfl) (Nat.le_of_ble_eq_true rfl) h
  · replace h := h.2 c1
    refine vv_lload_n (mi := mX10_placesOf) (pc := 10) 0 dX10_placesOf_10 rfl rfl ?_
    refine vv_gets (mi := mX10_placesOf) (pc := 11) gs_X10_294 dX10_placesOf_11 ?_
    refine vv_iload_n (mi := mX10_placesOf) (pc := 14) 1 dX10_placesOf_14 rfl rfl ?_
    obtain ⟨hi2, h⟩ := h
    refine vv_tld (mi := mX10_placesOf) (pc := 15) hi2 dX10_placesOf_15 ?_
    refine vv_lcmp (mi := mX10_placesOf) (pc := 16) dX10_placesOf_16 ?_
    refine vv_if_lt (mi := mX10_placesOf) (pc := 17) 36 dX10_placesOf_17 rfl (fun c3 => ?_) (fun c3 => ?_)
    · replace h := h.1 c3
      refine vv_iinc (mi := mX10_placesOf) (pc := 36) (x2 + 1) 1 [(2, .inl (x2 + 1)), (0, .inr (.inl x0))] dX10_placesOf_36 rfl rfl (Nat.le_of_ble_eq_true rfl) rfl ?_
      refine vv_goto (mi := mX10_placesOf) (pc := 39) 2 dX10_placesOf_39 rfl ?_
      refine vv_sub (mi := mX10_placesOf) [(0, .inr (.inl x0)), (2, .inl (x2 + 1))] [1, 0] rfl ?_
      exact hb2 _ _ _ h
    · replace h := h.2 c3
      refine vv_lload_n (mi := mX10_placesOf) (pc := 20) 0 dX10_placesOf_20 rfl rfl ?_
      refine vv_ldc2 (mi := mX10_placesOf) (pc := 21) 2 dX10_placesOf_21 kl_X10_298 ?_
      refine vv_gets (mi := mX10_placesOf) (pc := 24) gs_X10_294 dX10_placesOf_24 ?_
      refine vv_iload_n (mi := mX10_placesOf) (pc := 27) 1 dX10_placesOf_27 rfl rfl ?_
      obtain ⟨hi4, h⟩ := h
      refine vv_tld (mi := mX10_placesOf) (pc := 28) hi4 dX10_placesOf_28 ?_
      refine vv_lmul (mi := mX10_placesOf) (pc := 29) dX10_placesOf_29 ?_
      refine vv_lcmp (mi := mX10_placesOf) (pc := 30) dX10_placesOf_30 ?_
      refine vv_if_ge (mi := mX10_placesOf) (pc := 31) 36 dX10_placesOf_31 rfl (fun c5 => ?_) (fun c5 => ?_)
      · replace h := h.1 c5
        refine vv_iinc (mi := mX10_placesOf) (pc := 36) (x2 + 1) 1 [(2, .inl (x2 + 1)), (0, .inr (.inl x0))] dX10_placesOf_36 rfl rfl (Nat.le_of_ble_eq_true rfl) rfl ?_
        refine vv_goto (mi := mX10_placesOf) (pc := 39) 2 dX10_placesOf_39 rfl ?_
        refine vv_sub (mi := mX10_placesOf) [(0, .inr (.inl x0)), (2, .inl (x2 + 1))] [1, 0] rfl ?_
        exact hb2 _ _ _ h
      · replace h := h.2 c5
        refine vv_iload_n (mi := mX10_placesOf) (pc := 34) 1 dX10_placesOf_34 rfl rfl ?_
        exact vv_iret (mi := mX10_placesOf) (pc := 35) dX10_placesOf_35 rfl (Nat.le_of_ble_eq_true rfl) (Nat.le_of_ble_eq_true rfl) h
theorem loX10_placesOf_2 {X : Cx_}  {post : Int32 → Mm → Prop}  : ∀ (fu : Nat) {x0 : Int64} {x2 : Int32} {M : Mm}, DX10_placesOf_2  post fu x0 x2 M → VV X mX10_placesOf rX10_placesOf (pI_ post) 2 [(0, .inr (.inl x0)), (2, .inl x2)] [] M 0 0
  | 0, _, _, _, h => False.elim h
  | fu + 1, _, _, _, h => bX10_placesOf_2 (fun x0 x2 M h => loX10_placesOf_2  fu h) h
set_option maxHeartbeats 4000000 in
set_option maxRecDepth 100000 in
theorem ctX10_placesOf {X : Cx_} {a1 : Int64} {M : Mm} {post : Int32 → Mm → Prop} (h : PX10_placesOf a1 M post) : CT X mX10_placesOf rX10_placesOf [.inr (.inl a1)] M (pI_ post) := by
  unfold PX10_placesOf at h
  refine CT.of (by decide +kernel) (Nat.le_of_ble_eq_true rfl) ?_
  show VV X mX10_placesOf rX10_placesOf (pI_ post) 0 [(0, .inr (.inl a1))] [] M 0 0
  refine vv_iconst (mi := mX10_placesOf) (pc := 0) 0 dX10_placesOf_0 rfl ?_
  refine vv_istore_n (mi := mX10_placesOf) (pc := 1) [(2, .inl 0), (0, .inr (.inl a1))] dX10_placesOf_1 rfl (Nat.le_of_ble_eq_true rfl) rfl ?_
  refine vv_sub (mi := mX10_placesOf) [(0, .inr (.inl a1)), (2, .inl 0)] [1, 0] rfl ?_
  obtain ⟨fu, h⟩ := h
  exact loX10_placesOf_2 (X := X)  fu h
set_option maxHeartbeats 4000000 in
set_option maxRecDepth 100000 in
theorem ctX10_withoutLast {X : Cx_} {a1 : Int64} {a2 : Int32} {M : Mm} {post : Int64 → Mm → Prop} (h : PX10_withoutLast a1 a2 M post) : CT X mX10_withoutLast rX10_withoutLast [.inr (.inl a1), .inl a2] M (pL_ post) := by
  unfold PX10_withoutLast at h
  refine CT.of (by decide +kernel) (Nat.le_of_ble_eq_true rfl) ?_
  show VV X mX10_withoutLast rX10_withoutLast (pL_ post) 0 [(0, .inr (.inl a1)), (2, .inl a2)] [] M 0 0
  refine vv_iload_n (mi := mX10_withoutLast) (pc := 0) 1 dX10_withoutLast_0 rfl rfl ?_
  refine vv_if_le (mi := mX10_withoutLast) (pc := 1) 12 dX10_withoutLast_1 rfl (fun c1 => ?_) (fun c1 => ?_)
  · replace h := h.1 c1
    refine vv_lload_n (mi := mX10_withoutLast) (pc := 12) 0 dX10_withoutLast_12 rfl rfl ?_
    exact vv_lret (mi := mX10_withoutLast) (pc := 13) dX10_withoutLast_13 rfl (Nat.le_of_ble_eq_true rfl) (Nat.le_of_ble_eq_true rfl) h
  · replace h := h.2 c1
    refine vv_iload_n (mi := mX10_withoutLast) (pc := 4) 1 dX10_withoutLast_4 rfl rfl ?_
    refine vv_gets (mi := mX10_withoutLast) (pc := 5) gs_X10_294 dX10_withoutLast_5 ?_
    refine vv_tlen (mi := mX10_withoutLast) (pc := 8) dX10_withoutLast_8 ?_
    refine vv_icmp_lt (mi := mX10_withoutLast) (pc := 9) 14 dX10_withoutLast_9 rfl (fun c2 => ?_) (fun c2 => ?_)
    · replace h := h.1 c2
      refine vv_gets (mi := mX10_withoutLast) (pc := 14) gs_X10_294 dX10_withoutLast_14 ?_
      refine vv_iload_n (mi := mX10_withoutLast) (pc := 17) 1 dX10_withoutLast_17 rfl rfl ?_
      obtain ⟨hi3, h⟩ := h
      refine vv_tld (mi := mX10_withoutLast) (pc := 18) hi3 dX10_withoutLast_18 ?_
      obtain ⟨v4, ev4⟩ : ∃ z : Int64, z = (te_ (Int32.toNatClampNeg a2)) := ⟨_, rfl⟩
      refine vv_namL ev4 ?_
      replace h := h _ ev4
      refine vv_lstore_n (mi := mX10_withoutLast) (pc := 19) [(3, .inr (.inl v4)), (0, .inr (.inl a1)), (2, .inl a2)] dX10_withoutLast_19 rfl (Nat.le_of_ble_eq_true rfl) rfl ?_
      refine vv_lload_n (mi := mX10_withoutLast) (pc := 20) 0 dX10_withoutLast_20 rfl rfl ?_
      refine vv_lconst (mi := mX10_withoutLast) (pc := 21) 0 dX10_withoutLast_21 rfl ?_
      refine vv_lcmp (mi := mX10_withoutLast) (pc := 22) dX10_withoutLast_22 ?_
      refine vv_if_le (mi := mX10_withoutLast) (pc := 23) 32 dX10_withoutLast_23 rfl (fun c5 => ?_) (fun c5 => ?_)
      · replace h := h.1 c5
        refine vv_lload_n (mi := mX10_withoutLast) (pc := 32) 1 dX10_withoutLast_32 rfl rfl ?_
        exact vv_lret (mi := mX10_withoutLast) (pc := 33) dX10_withoutLast_33 rfl (Nat.le_of_ble_eq_true rfl) (Nat.le_of_ble_eq_true rfl) h
      · replace h := h.2 c5
        refine vv_lload_n (mi := mX10_withoutLast) (pc := 26) 1 dX10_withoutLast_26 rfl rfl ?_
        refine vv_lload_n (mi := mX10_withoutLast) (pc := 27) 0 dX10_withoutLast_27 rfl rfl ?_
        obtain ⟨hz6, h⟩ := h
        refine vv_ldiv (mi := mX10_withoutLast) (pc := 28) hz6 dX10_withoutLast_28 ?_
        refine vv_goto (mi := mX10_withoutLast) (pc := 29) 33 dX10_withoutLast_29 rfl ?_
        exact vv_lret (mi := mX10_withoutLast) (pc := 33) dX10_withoutLast_33 rfl (Nat.le_of_ble_eq_true rfl) (Nat.le_of_ble_eq_true rfl) h
    · replace h := h.2 c2
      refine vv_lload_n (mi := mX10_withoutLast) (pc := 12) 0 dX10_withoutLast_12 rfl rfl ?_
      exact vv_lret (mi := mX10_withoutLast) (pc := 13) dX10_withoutLast_13 rfl (Nat.le_of_ble_eq_true rfl) (Nat.le_of_ble_eq_true rfl) h
set_option maxHeartbeats 4000000 in
set_option maxRecDepth 100000 in
theorem ctX10_figureBit {X : Cx_} {a1 : Int64} {a2 : Int32} {a3 : Int32} {M : Mm} {post : Int32 → Mm → Prop} (h : PX10_figureBit a1 a2 a3 M post) : CT X mX10_figureBit rX10_figureBit [.inr (.inl a1), .inl a2, .inl a3] M (pI_ post) := by
  unfold PX10_figureBit at h
  refine CT.of (by decide +kernel) (Nat.le_of_ble_eq_true rfl) ?_
  show VV X mX10_figureBit rX10_figureBit (pI_ post) 0 [(0, .inr (.inl a1)), (2, .inl a2), (3, .inl a3)] [] M 0 0
  refine vv_iconst (mi := mX10_figureBit) (pc := 0) 1 dX10_figureBit_0 rfl ?_
  refine vv_lload_n (mi := mX10_figureBit) (pc := 1) 0 dX10_figureBit_1 rfl rfl ?_
  refine vv_iload_n (mi := mX10_figureBit) (pc := 2) 1 dX10_figureBit_2 rfl rfl ?_
  refine vv_iconst (mi := mX10_figureBit) (pc := 3) 1 dX10_figureBit_3 rfl ?_
  refine vv_isub (mi := mX10_figureBit) (pc := 4) dX10_figureBit_4 ?_
  refine vv_iload_n (mi := mX10_figureBit) (pc := 5) 2 dX10_figureBit_5 rfl rfl ?_
  refine vv_isub (mi := mX10_figureBit) (pc := 6) dX10_figureBit_6 ?_
  refine vv_callS (mi := mX10_figureBit) (pc := 7) (rest := [.inl 1]) (As := [.inr (.inl a1), .inl ((a2 - 1) - a3)]) (ctX10_withoutLast (X := X) h) dX10_figureBit_7 mb_X10_withoutLast rfl ml_X10_303 sc_X10_withoutLast ⟨(Nat.le_of_ble_eq_true rfl), (Nat.le_of_ble_eq_true rfl)⟩ ⟨(Nat.le_of_ble_eq_true rfl), (Nat.le_of_ble_eq_true rfl)⟩ (Nat.le_of_ble_eq_true rfl) rfl (kL_ (F := fun st M' => VV X mX10_figureBit rX10_figureBit (pI_ post) 10 [(0, .inr (.inl a1)), (2, .inl a2), (3, .inl a3)] st M' 0 0) (fun r1 M2 h => ?_))
  refine vv_ldc2 (mi := mX10_figureBit) (pc := 10) 10 dX10_figureBit_10 kl_X10_307 ?_
  refine vv_lrem (mi := mX10_figureBit) (pc := 13) nzL_10 dX10_figureBit_13 ?_
  refine vv_l2i (mi := mX10_figureBit) (pc := 14) dX10_figureBit_14 ?_
  refine vv_ishl (mi := mX10_figureBit) (pc := 15) dX10_figureBit_15 ?_
  exact vv_iret (mi := mX10_figureBit) (pc := 16) dX10_figureBit_16 rfl (Nat.le_of_ble_eq_true rfl) (Nat.le_of_ble_eq_true rfl) h
set_option maxHeartbeats 4000000 in
set_option maxRecDepth 100000 in
theorem bX2_init_63 {X : Cx_} {kb63 : Nat → Int32 → Int32 → Int32 → Mm → Prop} {post : Mm → Prop} (hb63 : ∀ (this : Nat) (x3 : Int32) (x4 : Int32) (x8 : Int32) (M : Mm), kb63 this x3 x4 x8 M → VV X mX2_init rX2_init (pV_ post) 63 [(0, .inr (.inr (some this))), (3, .inl x3), (4, .inl x4), (8, .inl x8)] [] M 1 8) {this : Nat} {x3 : Int32} {x4 : Int32} {x8 : Int32} {M : Mm} (h : BX2_init_63 kb63 post this x3 x4 x8 M) : VV X mX2_init rX2_init (pV_ post) 63 [(0, .inr (.inr (some this))), (3, .inl x3), (4, .inl x4), (8, .inl x8)] [] M 1 8 := by
  unfold BX2_init_63 at h
  refine vv_iload (mi := mX2_init) (pc := 63) 3 dX2_init_63 rfl ?_
  refine vv_aload_n (mi := mX2_init) (pc := 65) 0 dX2_init_65 rfl rfl ?_
  obtain ⟨ht17, h⟩ := h
  refine vv_getR (mi := mX2_init) (pc := 66) 2 8 rfl ht17 fl_X2_40 (Nat.le_of_ble_eq_true rfl) dX2_init_66 ?_
  obtain ⟨aq18, hs19, h⟩ := h
  obtain ⟨ht20, h⟩ := h
  refine vv_alen (mi := mX2_init) (pc := 69) (t := 20) (Nat.le_of_ble_eq_true rfl) (Nat.le_of_ble_eq_true rfl) rfl hs19 ht20 dX2_init_69 ?_
  refine vv_icmp_ge (mi := mX2_init) (pc := 70) 112 dX2_init_70 rfl (fun c21 => ?_) (fun c21 => ?_)
  · replace h := h.1 c21
    refine vv_iload (mi := mX2_init) (pc := 112) 2 dX2_init_112 rfl ?_
    refine vv_if_eq (mi := mX2_init) (pc := 114) 147 dX2_init_114 rfl (fun c22 => ?_) (fun c22 => ?_)
    · replace h := h.1 c22
      refine vv_aload_n (mi := mX2_init) (pc := 147) 0 dX2_init_147 rfl rfl ?_
      refine vv_iconst (mi := mX2_init) (pc := 148) (-1) dX2_init_148 rfl ?_
      obtain ⟨M23, eM23⟩ : ∃ z : Mm, z = suI M this 9 (-1) := ⟨_, rfl⟩
      replace h := h _ eM23
      refine vv_putI (mi := mX2_init) (pc := 149) 2 9 rfl ht17 fq_X2_48 (fun q => by cases q) rfl (Nat.le_of_ble_eq_true rfl) dX2_init_149 eM23 ?_
      refine vv_aload_n (mi := mX2_init) (pc := 152) 0 dX2_init_152 rfl rfl ?_
      refine vv_iconst (mi := mX2_init) (pc := 153) (-1) dX2_init_153 rfl ?_
      obtain ⟨M24, eM24⟩ : ∃ z : Mm, z = suI M23 this 10 (-1) := ⟨_, rfl⟩
      replace h := h _ eM24
      refine vv_putI (mi := mX2_init) (pc := 154) 2 10 rfl (tgI_ eM23 ht17) fq_X2_51 (fun q => by cases q) rfl (Nat.le_of_ble_eq_true rfl) dX2_init_154 eM24 ?_
      refine vv_aload_n (mi := mX2_init) (pc := 157) 0 dX2_init_157 rfl rfl ?_
      refine vv_iconst (mi := mX2_init) (pc := 158) (-1) dX2_init_158 rfl ?_
      obtain ⟨M25, eM25⟩ : ∃ z : Mm, z = suI M24 this 11 (-1) := ⟨_, rfl⟩
      replace h := h _ eM25
      refine vv_putI (mi := mX2_init) (pc := 159) 2 11 rfl (tgI_ eM24 (tgI_ eM23 ht17)) fq_X2_54 (fun q => by cases q) rfl (Nat.le_of_ble_eq_true rfl) dX2_init_159 eM25 ?_
      refine vv_aload_n (mi := mX2_init) (pc := 162) 0 dX2_init_162 rfl rfl ?_
      refine vv_iconst (mi := mX2_init) (pc := 163) (-1) dX2_init_163 rfl ?_
      obtain ⟨M26, eM26⟩ : ∃ z : Mm, z = suI M25 this 12 (-1) := ⟨_, rfl⟩
      replace h := h _ eM26
      refine vv_putI (mi := mX2_init) (pc := 164) 2 12 rfl (tgI_ eM25 (tgI_ eM24 (tgI_ eM23 ht17))) fq_X2_57 (fun q => by cases q) rfl (Nat.le_of_ble_eq_true rfl) dX2_init_164 eM26 ?_
      exact vv_vret (mi := mX2_init) (pc := 167) dX2_init_167 rfl (Nat.le_of_ble_eq_true rfl) (Nat.le_of_ble_eq_true rfl) h
    · replace h := h.2 c22
      refine vv_aload_n (mi := mX2_init) (pc := 117) 0 dX2_init_117 rfl rfl ?_
      refine vv_getI (mi := mX2_init) (pc := 118) 2 3 rfl ht17 fl_X2_25 (Nat.le_of_ble_eq_true rfl) dX2_init_118 ?_
      refine vv_if_lt (mi := mX2_init) (pc := 121) 147 dX2_init_121 rfl (fun c27 => ?_) (fun c27 => ?_)
      · replace h := h.1 c27
        refine vv_aload_n (mi := mX2_init) (pc := 147) 0 dX2_init_147 rfl rfl ?_
        refine vv_iconst (mi := mX2_init) (pc := 148) (-1) dX2_init_148 rfl ?_
        obtain ⟨M28, eM28⟩ : ∃ z : Mm, z = suI M this 9 (-1) := ⟨_, rfl⟩
        replace h := h _ eM28
        refine vv_putI (mi := mX2_init) (pc := 149) 2 9 rfl ht17 fq_X2_48 (fun q => by cases q) rfl (Nat.le_of_ble_eq_true rfl) dX2_init_149 eM28 ?_
        refine vv_aload_n (mi := mX2_init) (pc := 152) 0 dX2_init_152 rfl rfl ?_
        refine vv_iconst (mi := mX2_init) (pc := 153) (-1) dX2_init_153 rfl ?_
        obtain ⟨M29, eM29⟩ : ∃ z : Mm, z = suI M28 this 10 (-1) := ⟨_, rfl⟩
        replace h := h _ eM29
        refine vv_putI (mi := mX2_init) (pc := 154) 2 10 rfl (tgI_ eM28 ht17) fq_X2_51 (fun q => by cases q) rfl (Nat.le_of_ble_eq_true rfl) dX2_init_154 eM29 ?_
        refine vv_aload_n (mi := mX2_init) (pc := 157) 0 dX2_init_157 rfl rfl ?_
        refine vv_iconst (mi := mX2_init) (pc := 158) (-1) dX2_init_158 rfl ?_
        obtain ⟨M30, eM30⟩ : ∃ z : Mm, z = suI M29 this 11 (-1) := ⟨_, rfl⟩
        replace h := h _ eM30
        refine vv_putI (mi := mX2_init) (pc := 159) 2 11 rfl (tgI_ eM29 (tgI_ eM28 ht17)) fq_X2_54 (fun q => by cases q) rfl (Nat.le_of_ble_eq_true rfl) dX2_init_159 eM30 ?_
        refine vv_aload_n (mi := mX2_init) (pc := 162) 0 dX2_init_162 rfl rfl ?_
        refine vv_iconst (mi := mX2_init) (pc := 163) (-1) dX2_init_163 rfl ?_
        obtain ⟨M31, eM31⟩ : ∃ z : Mm, z = suI M30 this 12 (-1) := ⟨_, rfl⟩
        replace h := h _ eM31
        refine vv_putI (mi := mX2_init) (pc := 164) 2 12 rfl (tgI_ eM30 (tgI_ eM29 (tgI_ eM28 ht17))) fq_X2_57 (fun q => by cases q) rfl (Nat.le_of_ble_eq_true rfl) dX2_init_164 eM31 ?_
        exact vv_vret (mi := mX2_init) (pc := 167) dX2_init_167 rfl (Nat.le_of_ble_eq_true rfl) (Nat.le_of_ble_eq_true rfl) h
      · replace h := h.2 c27
        refine vv_aload_n (mi := mX2_init) (pc := 124) 0 dX2_init_124 rfl rfl ?_
        refine vv_getI (mi := mX2_init) (pc := 125) 2 3 rfl ht17 fl_X2_25 (Nat.le_of_ble_eq_true rfl) dX2_init_125 ?_
        refine vv_aload_n (mi := mX2_init) (pc := 128) 0 dX2_init_128 rfl rfl ?_
        refine vv_getR (mi := mX2_init) (pc := 129) 2 8 rfl ht17 fl_X2_40 (Nat.le_of_ble_eq_true rfl) dX2_init_129 ?_
        refine vv_alen (mi := mX2_init) (pc := 132) (t := 20) (Nat.le_of_ble_eq_true rfl) (Nat.le_of_ble_eq_true rfl) rfl hs19 ht20 dX2_init_132 ?_
        refine vv_icmp_ge (mi := mX2_init) (pc := 133) 147 dX2_init_133 rfl (fun c32 => ?_) (fun c32 => ?_)
        · replace h := h.1 c32
          refine vv_aload_n (mi := mX2_init) (pc := 147) 0 dX2_init_147 rfl rfl ?_
          refine vv_iconst (mi := mX2_init) (pc := 148) (-1) dX2_init_148 rfl ?_
          obtain ⟨M33, eM33⟩ : ∃ z : Mm, z = suI M this 9 (-1) := ⟨_, rfl⟩
          replace h := h _ eM33
          refine vv_putI (mi := mX2_init) (pc := 149) 2 9 rfl ht17 fq_X2_48 (fun q => by cases q) rfl (Nat.le_of_ble_eq_true rfl) dX2_init_149 eM33 ?_
          refine vv_aload_n (mi := mX2_init) (pc := 152) 0 dX2_init_152 rfl rfl ?_
          refine vv_iconst (mi := mX2_init) (pc := 153) (-1) dX2_init_153 rfl ?_
          obtain ⟨M34, eM34⟩ : ∃ z : Mm, z = suI M33 this 10 (-1) := ⟨_, rfl⟩
          replace h := h _ eM34
          refine vv_putI (mi := mX2_init) (pc := 154) 2 10 rfl (tgI_ eM33 ht17) fq_X2_51 (fun q => by cases q) rfl (Nat.le_of_ble_eq_true rfl) dX2_init_154 eM34 ?_
          refine vv_aload_n (mi := mX2_init) (pc := 157) 0 dX2_init_157 rfl rfl ?_
          refine vv_iconst (mi := mX2_init) (pc := 158) (-1) dX2_init_158 rfl ?_
          obtain ⟨M35, eM35⟩ : ∃ z : Mm, z = suI M34 this 11 (-1) := ⟨_, rfl⟩
          replace h := h _ eM35
          refine vv_putI (mi := mX2_init) (pc := 159) 2 11 rfl (tgI_ eM34 (tgI_ eM33 ht17)) fq_X2_54 (fun q => by cases q) rfl (Nat.le_of_ble_eq_true rfl) dX2_init_159 eM35 ?_
          refine vv_aload_n (mi := mX2_init) (pc := 162) 0 dX2_init_162 rfl rfl ?_
          refine vv_iconst (mi := mX2_init) (pc := 163) (-1) dX2_init_163 rfl ?_
          obtain ⟨M36, eM36⟩ : ∃ z : Mm, z = suI M35 this 12 (-1) := ⟨_, rfl⟩
          replace h := h _ eM36
          refine vv_putI (mi := mX2_init) (pc := 164) 2 12 rfl (tgI_ eM35 (tgI_ eM34 (tgI_ eM33 ht17))) fq_X2_57 (fun q => by cases q) rfl (Nat.le_of_ble_eq_true rfl) dX2_init_164 eM36 ?_
          exact vv_vret (mi := mX2_init) (pc := 167) dX2_init_167 rfl (Nat.le_of_ble_eq_true rfl) (Nat.le_of_ble_eq_true rfl) h
        · replace h := h.2 c32
          refine vv_aload_n (mi := mX2_init) (pc := 136) 0 dX2_init_136 rfl rfl ?_
          refine vv_getR (mi := mX2_init) (pc := 137) 2 8 rfl ht17 fl_X2_40 (Nat.le_of_ble_eq_true rfl) dX2_init_137 ?_
          refine vv_aload_n (mi := mX2_init) (pc := 140) 0 dX2_init_140 rfl rfl ?_
          refine vv_getI (mi := mX2_init) (pc := 141) 2 3 rfl ht17 fl_X2_25 (Nat.le_of_ble_eq_true rfl) dX2_init_141 ?_
          refine vv_iload (mi := mX2_init) (pc := 144) 2 dX2_init_144 rfl ?_
          obtain ⟨hi37, h⟩ := h
          obtain ⟨M38, eM38⟩ : ∃ z : Mm, z = suI M aq18 (Int32.toNatClampNeg (ddI M this 3)) x4 := ⟨_, rfl⟩
          replace h := h _ eM38
          refine vv_iast (mi := mX2_init) (pc := 146) hs19 ht20 hi37 dX2_init_146 eM38 ?_
          refine vv_aload_n (mi := mX2_init) (pc := 147) 0 dX2_init_147 rfl rfl ?_
          refine vv_iconst (mi := mX2_init) (pc := 148) (-1) dX2_init_148 rfl ?_
          obtain ⟨M39, eM39⟩ : ∃ z : Mm, z = suI M38 this 9 (-1) := ⟨_, rfl⟩
          replace h := h _ eM39
          refine vv_putI (mi := mX2_init) (pc := 149) 2 9 rfl (tgI_ eM38 ht17) fq_X2_48 (fun q => by cases q) rfl (Nat.le_of_ble_eq_true rfl) dX2_init_149 eM39 ?_
          refine vv_aload_n (mi := mX2_init) (pc := 152) 0 dX2_init_152 rfl rfl ?_
          refine vv_iconst (mi := mX2_init) (pc := 153) (-1) dX2_init_153 rfl ?_
          obtain ⟨M40, eM40⟩ : ∃ z : Mm, z = suI M39 this 10 (-1) := ⟨_, rfl⟩
          replace h := h _ eM40
          refine vv_putI (mi := mX2_init) (pc := 154) 2 10 rfl (tgI_ eM39 (tgI_ eM38 ht17)) fq_X2_51 (fun q => by cases q) rfl (Nat.le_of_ble_eq_true rfl) dX2_init_154 eM40 ?_
          refine vv_aload_n (mi := mX2_init) (pc := 157) 0 dX2_init_157 rfl rfl ?_
          refine vv_iconst (mi := mX2_init) (pc := 158) (-1) dX2_init_158 rfl ?_
          obtain ⟨M41, eM41⟩ : ∃ z : Mm, z = suI M40 this 11 (-1) := ⟨_, rfl⟩
          replace h := h _ eM41
          refine vv_putI (mi := mX2_init) (pc := 159) 2 11 rfl (tgI_ eM40 (tgI_ eM39 (tgI_ eM38 ht17))) fq_X2_54 (fun q => by cases q) rfl (Nat.le_of_ble_eq_true rfl) dX2_init_159 eM41 ?_
          refine vv_aload_n (mi := mX2_init) (pc := 162) 0 dX2_init_162 rfl rfl ?_
          refine vv_iconst (mi := mX2_init) (pc := 163) (-1) dX2_init_163 rfl ?_
          obtain ⟨M42, eM42⟩ : ∃ z : Mm, z = suI M41 this 12 (-1) := ⟨_, rfl⟩
          replace h := h _ eM42
          refine vv_putI (mi := mX2_init) (pc := 164) 2 12 rfl (tgI_ eM41 (tgI_ eM40 (tgI_ eM39 (tgI_ eM38 ht17)))) fq_X2_57 (fun q => by cases q) rfl (Nat.le_of_ble_eq_true rfl) dX2_init_164 eM42 ?_
          exact vv_vret (mi := mX2_init) (pc := 167) dX2_init_167 rfl (Nat.le_of_ble_eq_true rfl) (Nat.le_of_ble_eq_true rfl) h
  · replace h := h.2 c21
    refine vv_aload_n (mi := mX2_init) (pc := 73) 0 dX2_init_73 rfl rfl ?_
    refine vv_getR (mi := mX2_init) (pc := 74) 2 8 rfl ht17 fl_X2_40 (Nat.le_of_ble_eq_true rfl) dX2_init_74 ?_
    refine vv_iload (mi := mX2_init) (pc := 77) 3 dX2_init_77 rfl ?_
    refine vv_iload (mi := mX2_init) (pc := 79) 3 dX2_init_79 rfl ?_
    refine vv_aload_n (mi := mX2_init) (pc := 81) 0 dX2_init_81 rfl rfl ?_
    refine vv_getI (mi := mX2_init) (pc := 82) 2 3 rfl ht17 fl_X2_25 (Nat.le_of_ble_eq_true rfl) dX2_init_82 ?_
    refine vv_icmp_ge (mi := mX2_init) (pc := 85) 102 dX2_init_85 rfl (fun c43 => ?_) (fun c43 => ?_)
    · replace h := h.1 c43
      refine vv_sipush (mi := mX2_init) (pc := 102) 1023 dX2_init_102 rfl ?_
      obtain ⟨hi44, h⟩ := h
      obtain ⟨M45, eM45⟩ : ∃ z : Mm, z = suI M aq18 (Int32.toNatClampNeg x8) 1023 := ⟨_, rfl⟩
      replace h := h _ eM45
      refine vv_iast (mi := mX2_init) (pc := 105) hs19 ht20 hi44 dX2_init_105 eM45 ?_
      refine vv_iinc (mi := mX2_init) (pc := 106) (x8 + 1) 3 [(8, .inl (x8 + 1)), (0, .inr (.inr (some this))), (3, .inl x3), (4, .inl x4)] dX2_init_106 rfl rfl (Nat.le_of_ble_eq_true rfl) rfl ?_
      refine vv_goto (mi := mX2_init) (pc := 109) 63 dX2_init_109 rfl ?_
      refine vv_sub (mi := mX2_init) [(0, .inr (.inr (some this))), (3, .inl x3), (4, .inl x4), (8, .inl (x8 + 1))] [1, 2, 3, 0] rfl ?_
      exact hb63 _ _ _ _ _ h
    · replace h := h.2 c43
      refine vv_iload_n (mi := mX2_init) (pc := 88) 1 dX2_init_88 rfl rfl ?_
      refine vv_i2l (mi := mX2_init) (pc := 89) dX2_init_89 ?_
      refine vv_aload_n (mi := mX2_init) (pc := 90) 0 dX2_init_90 rfl rfl ?_
      refine vv_getI (mi := mX2_init) (pc := 91) 2 3 rfl ht17 fl_X2_25 (Nat.le_of_ble_eq_true rfl) dX2_init_91 ?_
      refine vv_iload (mi := mX2_init) (pc := 94) 3 dX2_init_94 rfl ?_
      refine vv_callSN (mi := mX2_init) (pc := 96) (rest := [.inl x8, .inr (.inr (ddR M this 8))]) (As := [.inr (.inl (Int32.toInt64 x3)), .inl (ddI M this 3), .inl x8]) (ctX10_figureBit (X := X) h) dX2_init_96 mb_X10_figureBit rfl mn_X2_44 sc_X10_figureBit ⟨(Nat.le_of_ble_eq_true rfl), (Nat.le_of_ble_eq_true rfl)⟩ ⟨(Nat.le_of_ble_eq_true rfl), (Nat.le_of_ble_eq_true rfl)⟩ (Nat.le_of_ble_eq_true rfl) rfl (kI_ (F := fun st M' => VV X mX2_init rX2_init (pV_ post) 99 [(0, .inr (.inr (some this))), (3, .inl x3), (4, .inl x4), (8, .inl x8)] st M' 1 8) (fun r46 M47 h => ?_))
      refine vv_goto (mi := mX2_init) (pc := 99) 105 dX2_init_99 rfl ?_
      obtain ⟨ht48, h⟩ := h
      obtain ⟨hi49, h⟩ := h
      obtain ⟨M50, eM50⟩ : ∃ z : Mm, z = suI M47 aq18 (Int32.toNatClampNeg x8) r46 := ⟨_, rfl⟩
      replace h := h _ eM50
      refine vv_iast (mi := mX2_init) (pc := 105) hs19 ht48 hi49 dX2_init_105 eM50 ?_
      refine vv_iinc (mi := mX2_init) (pc := 106) (x8 + 1) 3 [(8, .inl (x8 + 1)), (0, .inr (.inr (some this))), (3, .inl x3), (4, .inl x4)] dX2_init_106 rfl rfl (Nat.le_of_ble_eq_true rfl) rfl ?_
      refine vv_goto (mi := mX2_init) (pc := 109) 63 dX2_init_109 rfl ?_
      refine vv_sub (mi := mX2_init) [(0, .inr (.inr (some this))), (3, .inl x3), (4, .inl x4), (8, .inl (x8 + 1))] [1, 2, 3, 0] rfl ?_
      exact hb63 _ _ _ _ _ h
theorem loX2_init_63 {X : Cx_}  {post : Mm → Prop}  : ∀ (fu : Nat) {this : Nat} {x3 : Int32} {x4 : Int32} {x8 : Int32} {M : Mm}, DX2_init_63  post fu this x3 x4 x8 M → VV X mX2_init rX2_init (pV_ post) 63 [(0, .inr (.inr (some this))), (3, .inl x3), (4, .inl x4), (8, .inl x8)] [] M 1 8
  | 0, _, _, _, _, _, h => False.elim h
  | fu + 1, _, _, _, _, _, h => bX2_init_63 (fun this x3 x4 x8 M h => loX2_init_63  fu h) h
set_option maxHeartbeats 4000000 in
set_option maxRecDepth 100000 in
theorem ctX2_init {X : Cx_} {this : Nat} {a1 : Int32} {a2 : Int32} {a3 : Int32} {a4 : Int32} {a5 : Int32} {a6 : Int32} {a7 : Int32} {M : Mm} {post : Mm → Prop} (h : PX2_init this a1 a2 a3 a4 a5 a6 a7 M post) : CT X mX2_init rX2_init [.inr (.inr (some this)), .inl a1, .inl a2, .inl a3, .inl a4, .inl a5, .inl a6, .inl a7] M (pV_ post) := by
  unfold PX2_init at h
  refine CT.of (by decide +kernel) (Nat.le_of_ble_eq_true rfl) ?_
  show VV X mX2_init rX2_init (pV_ post) 0 [(0, .inr (.inr (some this))), (1, .inl a1), (2, .inl a2), (3, .inl a3), (4, .inl a4), (5, .inl a5), (6, .inl a6), (7, .inl a7)] [] M 0 0
  refine vv_aload_n (mi := mX2_init) (pc := 0) 0 dX2_init_0 rfl rfl ?_
  refine vv_objInit (mi := mX2_init) (pc := 1) dX2_init_1 oi_X2_3 im_obj co_obj (Nat.le_of_ble_eq_true rfl) (Nat.le_of_ble_eq_true rfl) (Nat.le_of_ble_eq_true rfl) ?_
  refine vv_aload_n (mi := mX2_init) (pc := 4) 0 dX2_init_4 rfl rfl ?_
  refine vv_iload_n (mi := mX2_init) (pc := 5) 1 dX2_init_5 rfl rfl ?_
  obtain ⟨ht1, h⟩ := h
  obtain ⟨M2, eM2⟩ : ∃ z : Mm, z = suI M this 0 a1 := ⟨_, rfl⟩
  replace h := h _ eM2
  refine vv_putI (mi := mX2_init) (pc := 6) 2 0 rfl ht1 fq_X2_9 (fun _ => rfl) rfl (Nat.le_of_ble_eq_true rfl) dX2_init_6 eM2 ?_
  refine vv_aload_n (mi := mX2_init) (pc := 9) 0 dX2_init_9 rfl rfl ?_
  refine vv_iload_n (mi := mX2_init) (pc := 10) 2 dX2_init_10 rfl rfl ?_
  obtain ⟨M3, eM3⟩ : ∃ z : Mm, z = suI M2 this 1 a2 := ⟨_, rfl⟩
  replace h := h _ eM3
  refine vv_putI (mi := mX2_init) (pc := 11) 2 1 rfl (tgI_ eM2 ht1) fq_X2_15 (fun _ => rfl) rfl (Nat.le_of_ble_eq_true rfl) dX2_init_11 eM3 ?_
  refine vv_aload_n (mi := mX2_init) (pc := 14) 0 dX2_init_14 rfl rfl ?_
  refine vv_iload_n (mi := mX2_init) (pc := 15) 3 dX2_init_15 rfl rfl ?_
  obtain ⟨M4, eM4⟩ : ∃ z : Mm, z = suI M3 this 2 a3 := ⟨_, rfl⟩
  replace h := h _ eM4
  refine vv_putI (mi := mX2_init) (pc := 16) 2 2 rfl (tgI_ eM3 (tgI_ eM2 ht1)) fq_X2_18 (fun _ => rfl) rfl (Nat.le_of_ble_eq_true rfl) dX2_init_16 eM4 ?_
  refine vv_aload_n (mi := mX2_init) (pc := 19) 0 dX2_init_19 rfl rfl ?_
  refine vv_iload_n (mi := mX2_init) (pc := 20) 3 dX2_init_20 rfl rfl ?_
  refine vv_i2l (mi := mX2_init) (pc := 21) dX2_init_21 ?_
  refine vv_callSN (mi := mX2_init) (pc := 22) (rest := [.inr (.inr (some this))]) (As := [.inr (.inl (Int32.toInt64 a3))]) (ctX10_placesOf (X := X) h) dX2_init_22 mb_X10_placesOf rfl mn_X2_21 sc_X10_placesOf ⟨(Nat.le_of_ble_eq_true rfl), (Nat.le_of_ble_eq_true rfl)⟩ ⟨(Nat.le_of_ble_eq_true rfl), (Nat.le_of_ble_eq_true rfl)⟩ (Nat.le_of_ble_eq_true rfl) rfl (kI_ (F := fun st M' => VV X mX2_init rX2_init (pV_ post) 25 [(0, .inr (.inr (some this))), (1, .inl a1), (2, .inl a2), (3, .inl a3), (4, .inl a4), (5, .inl a5), (6, .inl a6), (7, .inl a7)] st M' 0 0) (fun r5 M6 h => ?_))
  obtain ⟨ht7, h⟩ := h
  obtain ⟨M8, eM8⟩ : ∃ z : Mm, z = suI M6 this 3 r5 := ⟨_, rfl⟩
  replace h := h _ eM8
  refine vv_putI (mi := mX2_init) (pc := 25) 2 3 rfl ht7 fq_X2_25 (fun _ => rfl) rfl (Nat.le_of_ble_eq_true rfl) dX2_init_25 eM8 ?_
  refine vv_aload_n (mi := mX2_init) (pc := 28) 0 dX2_init_28 rfl rfl ?_
  refine vv_iload (mi := mX2_init) (pc := 29) 4 dX2_init_29 rfl ?_
  obtain ⟨M9, eM9⟩ : ∃ z : Mm, z = suI M8 this 4 a4 := ⟨_, rfl⟩
  replace h := h _ eM9
  refine vv_putI (mi := mX2_init) (pc := 31) 2 4 rfl (tgI_ eM8 ht7) fq_X2_28 (fun _ => rfl) rfl (Nat.le_of_ble_eq_true rfl) dX2_init_31 eM9 ?_
  refine vv_aload_n (mi := mX2_init) (pc := 34) 0 dX2_init_34 rfl rfl ?_
  refine vv_iload (mi := mX2_init) (pc := 35) 5 dX2_init_35 rfl ?_
  obtain ⟨M10, eM10⟩ : ∃ z : Mm, z = suI M9 this 5 a5 := ⟨_, rfl⟩
  replace h := h _ eM10
  refine vv_putI (mi := mX2_init) (pc := 37) 2 5 rfl (tgI_ eM9 (tgI_ eM8 ht7)) fq_X2_31 (fun _ => rfl) rfl (Nat.le_of_ble_eq_true rfl) dX2_init_37 eM10 ?_
  refine vv_aload_n (mi := mX2_init) (pc := 40) 0 dX2_init_40 rfl rfl ?_
  refine vv_iload (mi := mX2_init) (pc := 41) 6 dX2_init_41 rfl ?_
  obtain ⟨M11, eM11⟩ : ∃ z : Mm, z = suI M10 this 6 a6 := ⟨_, rfl⟩
  replace h := h _ eM11
  refine vv_putI (mi := mX2_init) (pc := 43) 2 6 rfl (tgI_ eM10 (tgI_ eM9 (tgI_ eM8 ht7))) fq_X2_34 (fun _ => rfl) rfl (Nat.le_of_ble_eq_true rfl) dX2_init_43 eM11 ?_
  refine vv_aload_n (mi := mX2_init) (pc := 46) 0 dX2_init_46 rfl rfl ?_
  refine vv_iload (mi := mX2_init) (pc := 47) 7 dX2_init_47 rfl ?_
  obtain ⟨M12, eM12⟩ : ∃ z : Mm, z = suI M11 this 7 a7 := ⟨_, rfl⟩
  replace h := h _ eM12
  refine vv_putI (mi := mX2_init) (pc := 49) 2 7 rfl (tgI_ eM11 (tgI_ eM10 (tgI_ eM9 (tgI_ eM8 ht7)))) fq_X2_37 (fun _ => rfl) rfl (Nat.le_of_ble_eq_true rfl) dX2_init_49 eM12 ?_
  refine vv_aload_n (mi := mX2_init) (pc := 52) 0 dX2_init_52 rfl rfl ?_
  refine vv_bipush (mi := mX2_init) (pc := 53) 8 dX2_init_53 rfl ?_
  obtain ⟨n13, en13⟩ : ∃ z : Nat, z = ddZ M12 := ⟨_, rfl⟩
  replace h := h _ en13
  obtain ⟨M14, eM14⟩ : ∃ z : Mm, z = suN M12 20 8 := ⟨_, rfl⟩
  replace h := h _ eM14
  refine vv_newa (mi := mX2_init) (pc := 55) 20 8 .int (Or.inl ⟨rfl, rfl⟩) ac_int (by decide +kernel) rfl (Nat.le_of_ble_eq_true rfl) (Nat.le_of_ble_eq_true rfl) (Nat.le_of_ble_eq_true rfl) dX2_init_55 en13 eM14 ?_
  obtain ⟨ht15, h⟩ := h
  obtain ⟨M16, eM16⟩ : ∃ z : Mm, z = suR M14 this 8 (some n13) := ⟨_, rfl⟩
  replace h := h _ eM16
  refine vv_putR (mi := mX2_init) (pc := 57) 2 8 (.array .int) rfl rfl ht15 fq_X2_40 (fun _ => rfl) rfl (Nat.le_of_ble_eq_true rfl) dX2_init_57 eM16 ?_
  refine vv_iconst (mi := mX2_init) (pc := 60) 0 dX2_init_60 rfl ?_
  refine vv_istore (mi := mX2_init) (pc := 61) [(8, .inl 0), (0, .inr (.inr (some this))), (1, .inl a1), (2, .inl a2), (3, .inl a3), (4, .inl a4), (5, .inl a5), (6, .inl a6), (7, .inl a7)] dX2_init_61 (Nat.le_of_ble_eq_true rfl) rfl ?_
  refine vv_sub (mi := mX2_init) [(0, .inr (.inr (some this))), (3, .inl a3), (4, .inl a4), (8, .inl 0)] [1, 4, 5, 0] rfl ?_
  obtain ⟨fu, h⟩ := h
  exact loX2_init_63 (X := X)  fu h
set_option maxHeartbeats 4000000 in
set_option maxRecDepth 100000 in
theorem ctX2_tell {X : Cx_} {this : Nat} {a1 : Int32} {M : Mm} {post : Int32 → Mm → Prop} (h : PX2_tell this a1 M post) : CT X mX2_tell rX2_tell [.inr (.inr (some this)), .inl a1] M (pI_ post) := by
  unfold PX2_tell at h
  refine CT.of (by decide +kernel) (Nat.le_of_ble_eq_true rfl) ?_
  show VV X mX2_tell rX2_tell (pI_ post) 0 [(0, .inr (.inr (some this))), (1, .inl a1)] [] M 0 0
  refine vv_iload_n (mi := mX2_tell) (pc := 0) 1 dX2_tell_0 rfl rfl ?_
  refine vv_tsw (mi := mX2_tell) (pc := 1) 97 [52, 57, 62, 67, 72, 77, 82, 87, 92] dX2_tell_1 rfl rfl rfl (fun j t c1 c1e => ?_) (fun c1 => ?_)
  · match j, c1, c1e with
    | 0, c1, c1e =>
      cases c1
      replace h := h.1 c1e
      refine vv_aload_n (mi := mX2_tell) (pc := 52) 0 dX2_tell_52 rfl rfl ?_
      obtain ⟨ht2, h⟩ := h
      refine vv_getI (mi := mX2_tell) (pc := 53) 2 0 rfl ht2 fl_X2_9 (Nat.le_of_ble_eq_true rfl) dX2_tell_53 ?_
      exact vv_iret (mi := mX2_tell) (pc := 56) dX2_tell_56 rfl (Nat.le_of_ble_eq_true rfl) (Nat.le_of_ble_eq_true rfl) h
    | 1, c1, c1e =>
      cases c1
      replace h := h.2.1 c1e
      refine vv_aload_n (mi := mX2_tell) (pc := 57) 0 dX2_tell_57 rfl rfl ?_
      obtain ⟨ht3, h⟩ := h
      refine vv_getI (mi := mX2_tell) (pc := 58) 2 1 rfl ht3 fl_X2_15 (Nat.le_of_ble_eq_true rfl) dX2_tell_58 ?_
      exact vv_iret (mi := mX2_tell) (pc := 61) dX2_tell_61 rfl (Nat.le_of_ble_eq_true rfl) (Nat.le_of_ble_eq_true rfl) h
    | 2, c1, c1e =>
      cases c1
      replace h := h.2.2.1 c1e
      refine vv_aload_n (mi := mX2_tell) (pc := 62) 0 dX2_tell_62 rfl rfl ?_
      obtain ⟨ht4, h⟩ := h
      refine vv_getI (mi := mX2_tell) (pc := 63) 2 2 rfl ht4 fl_X2_18 (Nat.le_of_ble_eq_true rfl) dX2_tell_63 ?_
      exact vv_iret (mi := mX2_tell) (pc := 66) dX2_tell_66 rfl (Nat.le_of_ble_eq_true rfl) (Nat.le_of_ble_eq_true rfl) h
    | 3, c1, c1e =>
      cases c1
      replace h := h.2.2.2.1 c1e
      refine vv_aload_n (mi := mX2_tell) (pc := 67) 0 dX2_tell_67 rfl rfl ?_
      obtain ⟨ht5, h⟩ := h
      refine vv_getI (mi := mX2_tell) (pc := 68) 2 4 rfl ht5 fl_X2_28 (Nat.le_of_ble_eq_true rfl) dX2_tell_68 ?_
      exact vv_iret (mi := mX2_tell) (pc := 71) dX2_tell_71 rfl (Nat.le_of_ble_eq_true rfl) (Nat.le_of_ble_eq_true rfl) h
    | 4, c1, c1e =>
      cases c1
      replace h := h.2.2.2.2.1 c1e
      refine vv_aload_n (mi := mX2_tell) (pc := 72) 0 dX2_tell_72 rfl rfl ?_
      obtain ⟨ht6, h⟩ := h
      refine vv_getI (mi := mX2_tell) (pc := 73) 2 5 rfl ht6 fl_X2_31 (Nat.le_of_ble_eq_true rfl) dX2_tell_73 ?_
      exact vv_iret (mi := mX2_tell) (pc := 76) dX2_tell_76 rfl (Nat.le_of_ble_eq_true rfl) (Nat.le_of_ble_eq_true rfl) h
    | 5, c1, c1e =>
      cases c1
      replace h := h.2.2.2.2.2.1 c1e
      refine vv_aload_n (mi := mX2_tell) (pc := 77) 0 dX2_tell_77 rfl rfl ?_
      obtain ⟨ht7, h⟩ := h
      refine vv_getI (mi := mX2_tell) (pc := 78) 2 6 rfl ht7 fl_X2_34 (Nat.le_of_ble_eq_true rfl) dX2_tell_78 ?_
      exact vv_iret (mi := mX2_tell) (pc := 81) dX2_tell_81 rfl (Nat.le_of_ble_eq_true rfl) (Nat.le_of_ble_eq_true rfl) h
    | 6, c1, c1e =>
      cases c1
      replace h := h.2.2.2.2.2.2.1 c1e
      refine vv_aload_n (mi := mX2_tell) (pc := 82) 0 dX2_tell_82 rfl rfl ?_
      obtain ⟨ht8, h⟩ := h
      refine vv_getI (mi := mX2_tell) (pc := 83) 2 7 rfl ht8 fl_X2_37 (Nat.le_of_ble_eq_true rfl) dX2_tell_83 ?_
      exact vv_iret (mi := mX2_tell) (pc := 86) dX2_tell_86 rfl (Nat.le_of_ble_eq_true rfl) (Nat.le_of_ble_eq_true rfl) h
    | 7, c1, c1e =>
      cases c1
      replace h := h.2.2.2.2.2.2.2.1 c1e
      refine vv_aload_n (mi := mX2_tell) (pc := 87) 0 dX2_tell_87 rfl rfl ?_
      obtain ⟨ht9, h⟩ := h
      refine vv_getI (mi := mX2_tell) (pc := 88) 2 10 rfl ht9 fl_X2_51 (Nat.le_of_ble_eq_true rfl) dX2_tell_88 ?_
      exact vv_iret (mi := mX2_tell) (pc := 91) dX2_tell_91 rfl (Nat.le_of_ble_eq_true rfl) (Nat.le_of_ble_eq_true rfl) h
    | 8, c1, c1e =>
      cases c1
      replace h := h.2.2.2.2.2.2.2.2.1 c1e
      refine vv_aload_n (mi := mX2_tell) (pc := 92) 0 dX2_tell_92 rfl rfl ?_
      obtain ⟨ht10, h⟩ := h
      refine vv_getI (mi := mX2_tell) (pc := 93) 2 11 rfl ht10 fl_X2_54 (Nat.le_of_ble_eq_true rfl) dX2_tell_93 ?_
      exact vv_iret (mi := mX2_tell) (pc := 96) dX2_tell_96 rfl (Nat.le_of_ble_eq_true rfl) (Nat.le_of_ble_eq_true rfl) h
    | (j + 9), c1, _ => exact absurd c1 (by simp)
  · replace h := h.2.2.2.2.2.2.2.2.2 c1
    refine vv_iconst (mi := mX2_tell) (pc := 97) (-1) dX2_tell_97 rfl ?_
    exact vv_iret (mi := mX2_tell) (pc := 98) dX2_tell_98 rfl (Nat.le_of_ble_eq_true rfl) (Nat.le_of_ble_eq_true rfl) h
set_option maxHeartbeats 4000000 in
set_option maxRecDepth 100000 in
theorem ctX2_isInForce {X : Cx_} {this : Nat} {a1 : Int32} {M : Mm} {post : Int32 → Mm → Prop} (h : PX2_isInForce this a1 M post) : CT X mX2_isInForce rX2_isInForce [.inr (.inr (some this)), .inl a1] M (pI_ post) := by
  unfold PX2_isInForce at h
  refine CT.of (by decide +kernel) (Nat.le_of_ble_eq_true rfl) ?_
  show VV X mX2_isInForce rX2_isInForce (pI_ post) 0 [(0, .inr (.inr (some this))), (1, .inl a1)] [] M 0 0
  refine vv_iload_n (mi := mX2_isInForce) (pc := 0) 1 dX2_isInForce_0 rfl rfl ?_
  refine vv_aload_n (mi := mX2_isInForce) (pc := 1) 0 dX2_isInForce_1 rfl rfl ?_
  obtain ⟨ht1, h⟩ := h
  refine vv_getI (mi := mX2_isInForce) (pc := 2) 2 7 rfl ht1 fl_X2_37 (Nat.le_of_ble_eq_true rfl) dX2_isInForce_2 ?_
  refine vv_icmp_lt (mi := mX2_isInForce) (pc := 5) 28 dX2_isInForce_5 rfl (fun c2 => ?_) (fun c2 => ?_)
  · replace h := h.1 c2
    refine vv_iconst (mi := mX2_isInForce) (pc := 28) 0 dX2_isInForce_28 rfl ?_
    exact vv_zret (mi := mX2_isInForce) (pc := 29) dX2_isInForce_29 rfl (Or.inl rfl) (Nat.le_of_ble_eq_true rfl) (Nat.le_of_ble_eq_true rfl) h
  · replace h := h.2 c2
    refine vv_aload_n (mi := mX2_isInForce) (pc := 8) 0 dX2_isInForce_8 rfl rfl ?_
    refine vv_getI (mi := mX2_isInForce) (pc := 9) 2 10 rfl ht1 fl_X2_51 (Nat.le_of_ble_eq_true rfl) dX2_isInForce_9 ?_
    refine vv_iconst (mi := mX2_isInForce) (pc := 12) (-1) dX2_isInForce_12 rfl ?_
    refine vv_icmp_eq (mi := mX2_isInForce) (pc := 13) 24 dX2_isInForce_13 rfl (fun c3 => ?_) (fun c3 => ?_)
    · replace h := h.1 c3
      refine vv_iconst (mi := mX2_isInForce) (pc := 24) 1 dX2_isInForce_24 rfl ?_
      refine vv_goto (mi := mX2_isInForce) (pc := 25) 29 dX2_isInForce_25 rfl ?_
      exact vv_zret (mi := mX2_isInForce) (pc := 29) dX2_isInForce_29 rfl (Or.inr rfl) (Nat.le_of_ble_eq_true rfl) (Nat.le_of_ble_eq_true rfl) h
    · replace h := h.2 c3
      refine vv_iload_n (mi := mX2_isInForce) (pc := 16) 1 dX2_isInForce_16 rfl rfl ?_
      refine vv_aload_n (mi := mX2_isInForce) (pc := 17) 0 dX2_isInForce_17 rfl rfl ?_
      refine vv_getI (mi := mX2_isInForce) (pc := 18) 2 10 rfl ht1 fl_X2_51 (Nat.le_of_ble_eq_true rfl) dX2_isInForce_18 ?_
      refine vv_icmp_ge (mi := mX2_isInForce) (pc := 21) 28 dX2_isInForce_21 rfl (fun c4 => ?_) (fun c4 => ?_)
      · replace h := h.1 c4
        refine vv_iconst (mi := mX2_isInForce) (pc := 28) 0 dX2_isInForce_28 rfl ?_
        exact vv_zret (mi := mX2_isInForce) (pc := 29) dX2_isInForce_29 rfl (Or.inl rfl) (Nat.le_of_ble_eq_true rfl) (Nat.le_of_ble_eq_true rfl) h
      · replace h := h.2 c4
        refine vv_iconst (mi := mX2_isInForce) (pc := 24) 1 dX2_isInForce_24 rfl ?_
        refine vv_goto (mi := mX2_isInForce) (pc := 25) 29 dX2_isInForce_25 rfl ?_
        exact vv_zret (mi := mX2_isInForce) (pc := 29) dX2_isInForce_29 rfl (Or.inr rfl) (Nat.le_of_ble_eq_true rfl) (Nat.le_of_ble_eq_true rfl) h
set_option maxHeartbeats 4000000 in
set_option maxRecDepth 100000 in
theorem ctX2_isInside {X : Cx_} {this : Nat} {a1 : Int32} {M : Mm} {post : Int32 → Mm → Prop} (h : PX2_isInside this a1 M post) : CT X mX2_isInside rX2_isInside [.inr (.inr (some this)), .inl a1] M (pI_ post) := by
  unfold PX2_isInside at h
  refine CT.of (by decide +kernel) (Nat.le_of_ble_eq_true rfl) ?_
  show VV X mX2_isInside rX2_isInside (pI_ post) 0 [(0, .inr (.inr (some this))), (1, .inl a1)] [] M 0 0
  refine vv_iload_n (mi := mX2_isInside) (pc := 0) 1 dX2_isInside_0 rfl rfl ?_
  refine vv_aload_n (mi := mX2_isInside) (pc := 1) 0 dX2_isInside_1 rfl rfl ?_
  obtain ⟨ht1, h⟩ := h
  refine vv_getI (mi := mX2_isInside) (pc := 2) 2 7 rfl ht1 fl_X2_37 (Nat.le_of_ble_eq_true rfl) dX2_isInside_2 ?_
  refine vv_icmp_le (mi := mX2_isInside) (pc := 5) 28 dX2_isInside_5 rfl (fun c2 => ?_) (fun c2 => ?_)
  · replace h := h.1 c2
    refine vv_iconst (mi := mX2_isInside) (pc := 28) 0 dX2_isInside_28 rfl ?_
    exact vv_zret (mi := mX2_isInside) (pc := 29) dX2_isInside_29 rfl (Or.inl rfl) (Nat.le_of_ble_eq_true rfl) (Nat.le_of_ble_eq_true rfl) h
  · replace h := h.2 c2
    refine vv_aload_n (mi := mX2_isInside) (pc := 8) 0 dX2_isInside_8 rfl rfl ?_
    refine vv_getI (mi := mX2_isInside) (pc := 9) 2 10 rfl ht1 fl_X2_51 (Nat.le_of_ble_eq_true rfl) dX2_isInside_9 ?_
    refine vv_iconst (mi := mX2_isInside) (pc := 12) (-1) dX2_isInside_12 rfl ?_
    refine vv_icmp_eq (mi := mX2_isInside) (pc := 13) 24 dX2_isInside_13 rfl (fun c3 => ?_) (fun c3 => ?_)
    · replace h := h.1 c3
      refine vv_iconst (mi := mX2_isInside) (pc := 24) 1 dX2_isInside_24 rfl ?_
      refine vv_goto (mi := mX2_isInside) (pc := 25) 29 dX2_isInside_25 rfl ?_
      exact vv_zret (mi := mX2_isInside) (pc := 29) dX2_isInside_29 rfl (Or.inr rfl) (Nat.le_of_ble_eq_true rfl) (Nat.le_of_ble_eq_true rfl) h
    · replace h := h.2 c3
      refine vv_iload_n (mi := mX2_isInside) (pc := 16) 1 dX2_isInside_16 rfl rfl ?_
      refine vv_aload_n (mi := mX2_isInside) (pc := 17) 0 dX2_isInside_17 rfl rfl ?_
      refine vv_getI (mi := mX2_isInside) (pc := 18) 2 10 rfl ht1 fl_X2_51 (Nat.le_of_ble_eq_true rfl) dX2_isInside_18 ?_
      refine vv_icmp_ge (mi := mX2_isInside) (pc := 21) 28 dX2_isInside_21 rfl (fun c4 => ?_) (fun c4 => ?_)
      · replace h := h.1 c4
        refine vv_iconst (mi := mX2_isInside) (pc := 28) 0 dX2_isInside_28 rfl ?_
        exact vv_zret (mi := mX2_isInside) (pc := 29) dX2_isInside_29 rfl (Or.inl rfl) (Nat.le_of_ble_eq_true rfl) (Nat.le_of_ble_eq_true rfl) h
      · replace h := h.2 c4
        refine vv_iconst (mi := mX2_isInside) (pc := 24) 1 dX2_isInside_24 rfl ?_
        refine vv_goto (mi := mX2_isInside) (pc := 25) 29 dX2_isInside_25 rfl ?_
        exact vv_zret (mi := mX2_isInside) (pc := 29) dX2_isInside_29 rfl (Or.inr rfl) (Nat.le_of_ble_eq_true rfl) (Nat.le_of_ble_eq_true rfl) h
set_option maxHeartbeats 4000000 in
set_option maxRecDepth 100000 in
theorem ctX2_placesBehind {X : Cx_} {this : Nat} {M : Mm} {post : Int32 → Mm → Prop} (h : PX2_placesBehind this M post) : CT X mX2_placesBehind rX2_placesBehind [.inr (.inr (some this))] M (pI_ post) := by
  unfold PX2_placesBehind at h
  refine CT.of (by decide +kernel) (Nat.le_of_ble_eq_true rfl) ?_
  show VV X mX2_placesBehind rX2_placesBehind (pI_ post) 0 [(0, .inr (.inr (some this)))] [] M 0 0
  refine vv_aload_n (mi := mX2_placesBehind) (pc := 0) 0 dX2_placesBehind_0 rfl rfl ?_
  obtain ⟨ht1, h⟩ := h
  refine vv_getI (mi := mX2_placesBehind) (pc := 1) 2 5 rfl ht1 fl_X2_31 (Nat.le_of_ble_eq_true rfl) dX2_placesBehind_1 ?_
  refine vv_aload_n (mi := mX2_placesBehind) (pc := 4) 0 dX2_placesBehind_4 rfl rfl ?_
  refine vv_getI (mi := mX2_placesBehind) (pc := 5) 2 3 rfl ht1 fl_X2_25 (Nat.le_of_ble_eq_true rfl) dX2_placesBehind_5 ?_
  refine vv_isub (mi := mX2_placesBehind) (pc := 8) dX2_placesBehind_8 ?_
  exact vv_iret (mi := mX2_placesBehind) (pc := 9) dX2_placesBehind_9 rfl (Nat.le_of_ble_eq_true rfl) (Nat.le_of_ble_eq_true rfl) h
set_option maxHeartbeats 4000000 in
set_option maxRecDepth 100000 in
theorem ctX2_figuresAt {X : Cx_} {this : Nat} {a1 : Int32} {M : Mm} {post : Int32 → Mm → Prop} (h : PX2_figuresAt this a1 M post) : CT X mX2_figuresAt rX2_figuresAt [.inr (.inr (some this)), .inl a1] M (pI_ post) := by
  unfold PX2_figuresAt at h
  refine CT.of (by decide +kernel) (Nat.le_of_ble_eq_true rfl) ?_
  show VV X mX2_figuresAt rX2_figuresAt (pI_ post) 0 [(0, .inr (.inr (some this))), (1, .inl a1)] [] M 0 0
  refine vv_iload_n (mi := mX2_figuresAt) (pc := 0) 1 dX2_figuresAt_0 rfl rfl ?_
  refine vv_if_lt (mi := mX2_figuresAt) (pc := 1) 22 dX2_figuresAt_1 rfl (fun c1 => ?_) (fun c1 => ?_)
  · replace h := h.1 c1
    refine vv_sipush (mi := mX2_figuresAt) (pc := 22) 1023 dX2_figuresAt_22 rfl ?_
    exact vv_iret (mi := mX2_figuresAt) (pc := 25) dX2_figuresAt_25 rfl (Nat.le_of_ble_eq_true rfl) (Nat.le_of_ble_eq_true rfl) h
  · replace h := h.2 c1
    refine vv_iload_n (mi := mX2_figuresAt) (pc := 4) 1 dX2_figuresAt_4 rfl rfl ?_
    refine vv_aload_n (mi := mX2_figuresAt) (pc := 5) 0 dX2_figuresAt_5 rfl rfl ?_
    obtain ⟨ht2, h⟩ := h
    refine vv_getR (mi := mX2_figuresAt) (pc := 6) 2 8 rfl ht2 fl_X2_40 (Nat.le_of_ble_eq_true rfl) dX2_figuresAt_6 ?_
    obtain ⟨aq3, hs4, h⟩ := h
    obtain ⟨ht5, h⟩ := h
    refine vv_alen (mi := mX2_figuresAt) (pc := 9) (t := 20) (Nat.le_of_ble_eq_true rfl) (Nat.le_of_ble_eq_true rfl) rfl hs4 ht5 dX2_figuresAt_9 ?_
    refine vv_icmp_ge (mi := mX2_figuresAt) (pc := 10) 22 dX2_figuresAt_10 rfl (fun c6 => ?_) (fun c6 => ?_)
    · replace h := h.1 c6
      refine vv_sipush (mi := mX2_figuresAt) (pc := 22) 1023 dX2_figuresAt_22 rfl ?_
      exact vv_iret (mi := mX2_figuresAt) (pc := 25) dX2_figuresAt_25 rfl (Nat.le_of_ble_eq_true rfl) (Nat.le_of_ble_eq_true rfl) h
    · replace h := h.2 c6
      refine vv_aload_n (mi := mX2_figuresAt) (pc := 13) 0 dX2_figuresAt_13 rfl rfl ?_
      refine vv_getR (mi := mX2_figuresAt) (pc := 14) 2 8 rfl ht2 fl_X2_40 (Nat.le_of_ble_eq_true rfl) dX2_figuresAt_14 ?_
      refine vv_iload_n (mi := mX2_figuresAt) (pc := 17) 1 dX2_figuresAt_17 rfl rfl ?_
      obtain ⟨hi7, h⟩ := h
      refine vv_iald (mi := mX2_figuresAt) (pc := 18) hs4 ht5 hi7 dX2_figuresAt_18 ?_
      refine vv_goto (mi := mX2_figuresAt) (pc := 19) 25 dX2_figuresAt_19 rfl ?_
      exact vv_iret (mi := mX2_figuresAt) (pc := 25) dX2_figuresAt_25 rfl (Nat.le_of_ble_eq_true rfl) (Nat.le_of_ble_eq_true rfl) h
set_option maxHeartbeats 4000000 in
set_option maxRecDepth 100000 in
theorem ctJ9_min_7cf53 {X : Cx_} {a1 : Int32} {a2 : Int32} {M : Mm} {post : Int32 → Mm → Prop} (h : PJ9_min_7cf53 a1 a2 M post) : CT X mJ9_min_7cf53 rJ9_min_7cf53 [.inl a1, .inl a2] M (pI_ post) := by
  unfold PJ9_min_7cf53 at h
  refine CT.ofF (by decide +kernel) (Nat.le_of_ble_eq_true rfl) ?_
  show VV X mJ9_min_7cf53 rJ9_min_7cf53 (pI_ post) 0 [(0, .inl a1), (1, .inl a2)] [] M 0 0
  refine vv_iload_n (mi := mJ9_min_7cf53) (pc := 0) 0 dJ9_min_7cf53_0 rfl rfl ?_
  refine vv_iload_n (mi := mJ9_min_7cf53) (pc := 1) 1 dJ9_min_7cf53_1 rfl rfl ?_
  refine vv_icmp_gt (mi := mJ9_min_7cf53) (pc := 2) 9 dJ9_min_7cf53_2 rfl (fun c1 => ?_) (fun c1 => ?_)
  · replace h := h.1 c1
    refine vv_iload_n (mi := mJ9_min_7cf53) (pc := 9) 1 dJ9_min_7cf53_9 rfl rfl ?_
    exact vv_iret (mi := mJ9_min_7cf53) (pc := 10) dJ9_min_7cf53_10 rfl (Nat.le_of_ble_eq_true rfl) (Nat.le_of_ble_eq_true rfl) h
  · replace h := h.2 c1
    refine vv_iload_n (mi := mJ9_min_7cf53) (pc := 5) 0 dJ9_min_7cf53_5 rfl rfl ?_
    refine vv_goto (mi := mJ9_min_7cf53) (pc := 6) 10 dJ9_min_7cf53_6 rfl ?_
    exact vv_iret (mi := mJ9_min_7cf53) (pc := 10) dJ9_min_7cf53_10 rfl (Nat.le_of_ble_eq_true rfl) (Nat.le_of_ble_eq_true rfl) h
set_option maxHeartbeats 4000000 in
set_option maxRecDepth 100000 in
theorem ctX2_fits {X : Cx_} {this : Nat} {a1 : Int64} {a2 : Int32} {M : Mm} {post : Int32 → Mm → Prop} (h : PX2_fits this a1 a2 M post) : CT X mX2_fits rX2_fits [.inr (.inr (some this)), .inr (.inl a1), .inl a2] M (pI_ post) := by
  unfold PX2_fits at h
  refine CT.of (by decide +kernel) (Nat.le_of_ble_eq_true rfl) ?_
  show VV X mX2_fits rX2_fits (pI_ post) 0 [(0, .inr (.inr (some this))), (1, .inr (.inl a1)), (3, .inl a2)] [] M 0 0
  refine vv_iload_n (mi := mX2_fits) (pc := 0) 2 dX2_fits_0 rfl rfl ?_
  refine vv_aload_n (mi := mX2_fits) (pc := 1) 0 dX2_fits_1 rfl rfl ?_
  obtain ⟨ht1, h⟩ := h
  refine vv_getI (mi := mX2_fits) (pc := 2) 2 6 rfl ht1 fl_X2_34 (Nat.le_of_ble_eq_true rfl) dX2_fits_2 ?_
  refine vv_icmp_le (mi := mX2_fits) (pc := 5) 10 dX2_fits_5 rfl (fun c2 => ?_) (fun c2 => ?_)
  · replace h := h.1 c2
    refine vv_iload_n (mi := mX2_fits) (pc := 10) 2 dX2_fits_10 rfl rfl ?_
    refine vv_aload_n (mi := mX2_fits) (pc := 11) 0 dX2_fits_11 rfl rfl ?_
    refine vv_getI (mi := mX2_fits) (pc := 12) 2 3 rfl ht1 fl_X2_25 (Nat.le_of_ble_eq_true rfl) dX2_fits_12 ?_
    refine vv_callS (mi := mX2_fits) (pc := 15) (rest := []) (As := [.inl a2, .inl (ddI M this 3)]) (ctJ9_min_7cf53 (X := X) h) dX2_fits_15 mb_J9_min_7cf53 rfl ml_X2_60 sc_J9_min_7cf53 ⟨(Nat.le_of_ble_eq_true rfl), (Nat.le_of_ble_eq_true rfl)⟩ ⟨(Nat.le_of_ble_eq_true rfl), (Nat.le_of_ble_eq_true rfl)⟩ (Nat.le_of_ble_eq_true rfl) rfl (kI_ (F := fun st M' => VV X mX2_fits rX2_fits (pI_ post) 18 [(0, .inr (.inr (some this))), (1, .inr (.inl a1)), (3, .inl a2)] st M' 0 0) (fun r3 M4 h => ?_))
    refine vv_istore (mi := mX2_fits) (pc := 18) [(4, .inl r3), (0, .inr (.inr (some this))), (1, .inr (.inl a1)), (3, .inl a2)] dX2_fits_18 (Nat.le_of_ble_eq_true rfl) rfl ?_
    refine vv_lload_n (mi := mX2_fits) (pc := 20) 2 dX2_fits_20 rfl rfl ?_
    refine vv_iload_n (mi := mX2_fits) (pc := 21) 3 dX2_fits_21 rfl rfl ?_
    refine vv_iload (mi := mX2_fits) (pc := 22) 0 dX2_fits_22 rfl ?_
    refine vv_isub (mi := mX2_fits) (pc := 24) dX2_fits_24 ?_
    refine vv_callSN (mi := mX2_fits) (pc := 25) (rest := []) (As := [.inr (.inl a1), .inl (a2 - r3)]) (ctX10_withoutLast (X := X) h) dX2_fits_25 mb_X10_withoutLast rfl mn_X2_66 sc_X10_withoutLast ⟨(Nat.le_of_ble_eq_true rfl), (Nat.le_of_ble_eq_true rfl)⟩ ⟨(Nat.le_of_ble_eq_true rfl), (Nat.le_of_ble_eq_true rfl)⟩ (Nat.le_of_ble_eq_true rfl) rfl (kL_ (F := fun st M' => VV X mX2_fits rX2_fits (pI_ post) 28 [(4, .inl r3), (0, .inr (.inr (some this))), (1, .inr (.inl a1)), (3, .inl a2)] st M' 0 0) (fun r5 M6 h => ?_))
    refine vv_aload_n (mi := mX2_fits) (pc := 28) 1 dX2_fits_28 rfl rfl ?_
    obtain ⟨ht7, h⟩ := h
    refine vv_getI (mi := mX2_fits) (pc := 29) 2 2 rfl ht7 fl_X2_18 (Nat.le_of_ble_eq_true rfl) dX2_fits_29 ?_
    refine vv_i2l (mi := mX2_fits) (pc := 32) dX2_fits_32 ?_
    refine vv_aload_n (mi := mX2_fits) (pc := 33) 1 dX2_fits_33 rfl rfl ?_
    refine vv_getI (mi := mX2_fits) (pc := 34) 2 3 rfl ht7 fl_X2_25 (Nat.le_of_ble_eq_true rfl) dX2_fits_34 ?_
    refine vv_iload (mi := mX2_fits) (pc := 37) 0 dX2_fits_37 rfl ?_
    refine vv_isub (mi := mX2_fits) (pc := 39) dX2_fits_39 ?_
    refine vv_callSN (mi := mX2_fits) (pc := 40) (rest := [.inr (.inl r5)]) (As := [.inr (.inl (Int32.toInt64 (ddI M6 this 2))), .inl ((ddI M6 this 3) - r3)]) (ctX10_withoutLast (X := X) h) dX2_fits_40 mb_X10_withoutLast rfl mn_X2_66 sc_X10_withoutLast ⟨(Nat.le_of_ble_eq_true rfl), (Nat.le_of_ble_eq_true rfl)⟩ ⟨(Nat.le_of_ble_eq_true rfl), (Nat.le_of_ble_eq_true rfl)⟩ (Nat.le_of_ble_eq_true rfl) rfl (kL_ (F := fun st M' => VV X mX2_fits rX2_fits (pI_ post) 43 [(4, .inl r3), (0, .inr (.inr (some this))), (1, .inr (.inl a1)), (3, .inl a2)] st M' 0 0) (fun r8 M9 h => ?_))
    refine vv_lcmp (mi := mX2_fits) (pc := 43) dX2_fits_43 ?_
    refine vv_if_eq (mi := mX2_fits) (pc := 44) 49 dX2_fits_44 rfl (fun c10 => ?_) (fun c10 => ?_)
    · replace h := h.1 c10
      refine vv_iload_n (mi := mX2_fits) (pc := 49) 3 dX2_fits_49 rfl rfl ?_
      refine vv_aload_n (mi := mX2_fits) (pc := 50) 1 dX2_fits_50 rfl rfl ?_
      obtain ⟨ht11, h⟩ := h
      refine vv_getI (mi := mX2_fits) (pc := 51) 2 3 rfl ht11 fl_X2_25 (Nat.le_of_ble_eq_true rfl) dX2_fits_51 ?_
      refine vv_icmp_le (mi := mX2_fits) (pc := 54) 78 dX2_fits_54 rfl (fun c12 => ?_) (fun c12 => ?_)
      · replace h := h.1 c12
        refine vv_iconst (mi := mX2_fits) (pc := 78) 1 dX2_fits_78 rfl ?_
        refine vv_goto (mi := mX2_fits) (pc := 79) 83 dX2_fits_79 rfl ?_
        exact vv_zret (mi := mX2_fits) (pc := 83) dX2_fits_83 rfl (Or.inr rfl) (Nat.le_of_ble_eq_true rfl) (Nat.le_of_ble_eq_true rfl) h
      · replace h := h.2 c12
        refine vv_aload_n (mi := mX2_fits) (pc := 57) 1 dX2_fits_57 rfl rfl ?_
        refine vv_aload_n (mi := mX2_fits) (pc := 58) 1 dX2_fits_58 rfl rfl ?_
        refine vv_getI (mi := mX2_fits) (pc := 59) 2 3 rfl ht11 fl_X2_25 (Nat.le_of_ble_eq_true rfl) dX2_fits_59 ?_
        refine vv_callV (mi := mX2_fits) (pc := 62) (rest := []) (As := [.inl (ddI M9 this 3)]) (ctX2_figuresAt (X := X) h) dX2_fits_62 rfl ht11 (Nat.le_of_ble_eq_true rfl) rfl mb_X2_figuresAt rfl ml_X2_70 im_X2_figuresAt se_X2_figuresAt ⟨(Nat.le_of_ble_eq_true rfl), (Nat.le_of_ble_eq_true rfl)⟩ ⟨(Nat.le_of_ble_eq_true rfl), (Nat.le_of_ble_eq_true rfl)⟩ (Nat.le_of_ble_eq_true rfl) rfl (kI_ (F := fun st M' => VV X mX2_fits rX2_fits (pI_ post) 65 [(4, .inl r3), (0, .inr (.inr (some this))), (1, .inr (.inl a1)), (3, .inl a2)] st M' 0 0) (fun r13 M14 h => ?_))
        refine vv_lload_n (mi := mX2_fits) (pc := 65) 2 dX2_fits_65 rfl rfl ?_
        refine vv_iload_n (mi := mX2_fits) (pc := 66) 3 dX2_fits_66 rfl rfl ?_
        refine vv_aload_n (mi := mX2_fits) (pc := 67) 1 dX2_fits_67 rfl rfl ?_
        obtain ⟨ht15, h⟩ := h
        refine vv_getI (mi := mX2_fits) (pc := 68) 2 3 rfl ht15 fl_X2_25 (Nat.le_of_ble_eq_true rfl) dX2_fits_68 ?_
        refine vv_callSN (mi := mX2_fits) (pc := 71) (rest := [.inl r13]) (As := [.inr (.inl a1), .inl a2, .inl (ddI M14 this 3)]) (ctX10_figureBit (X := X) h) dX2_fits_71 mb_X10_figureBit rfl mn_X2_44 sc_X10_figureBit ⟨(Nat.le_of_ble_eq_true rfl), (Nat.le_of_ble_eq_true rfl)⟩ ⟨(Nat.le_of_ble_eq_true rfl), (Nat.le_of_ble_eq_true rfl)⟩ (Nat.le_of_ble_eq_true rfl) rfl (kI_ (F := fun st M' => VV X mX2_fits rX2_fits (pI_ post) 74 [(4, .inl r3), (0, .inr (.inr (some this))), (1, .inr (.inl a1)), (3, .inl a2)] st M' 0 0) (fun r16 M17 h => ?_))
        refine vv_iand (mi := mX2_fits) (pc := 74) dX2_fits_74 ?_
        refine vv_if_eq (mi := mX2_fits) (pc := 75) 82 dX2_fits_75 rfl (fun c18 => ?_) (fun c18 => ?_)
        · replace h := h.1 c18
          refine vv_iconst (mi := mX2_fits) (pc := 82) 0 dX2_fits_82 rfl ?_
          exact vv_zret (mi := mX2_fits) (pc := 83) dX2_fits_83 rfl (Or.inl rfl) (Nat.le_of_ble_eq_true rfl) (Nat.le_of_ble_eq_true rfl) h
        · replace h := h.2 c18
          refine vv_iconst (mi := mX2_fits) (pc := 78) 1 dX2_fits_78 rfl ?_
          refine vv_goto (mi := mX2_fits) (pc := 79) 83 dX2_fits_79 rfl ?_
          exact vv_zret (mi := mX2_fits) (pc := 83) dX2_fits_83 rfl (Or.inr rfl) (Nat.le_of_ble_eq_true rfl) (Nat.le_of_ble_eq_true rfl) h
    · replace h := h.2 c10
      refine vv_iconst (mi := mX2_fits) (pc := 47) 0 dX2_fits_47 rfl ?_
      exact vv_zret (mi := mX2_fits) (pc := 48) dX2_fits_48 rfl (Or.inl rfl) (Nat.le_of_ble_eq_true rfl) (Nat.le_of_ble_eq_true rfl) h
  · replace h := h.2 c2
    refine vv_iconst (mi := mX2_fits) (pc := 8) 0 dX2_fits_8 rfl ?_
    exact vv_zret (mi := mX2_fits) (pc := 9) dX2_fits_9 rfl (Or.inl rfl) (Nat.le_of_ble_eq_true rfl) (Nat.le_of_ble_eq_true rfl) h
set_option maxHeartbeats 4000000 in
set_option maxRecDepth 100000 in
theorem ctX2_hasNumber {X : Cx_} {this : Nat} {a1 : Int64} {a2 : Int32} {M : Mm} {post : Int32 → Mm → Prop} (h : PX2_hasNumber this a1 a2 M post) : CT X mX2_hasNumber rX2_hasNumber [.inr (.inr (some this)), .inr (.inl a1), .inl a2] M (pI_ post) := by
  unfold PX2_hasNumber at h
  refine CT.of (by decide +kernel) (Nat.le_of_ble_eq_true rfl) ?_
  show VV X mX2_hasNumber rX2_hasNumber (pI_ post) 0 [(0, .inr (.inr (some this))), (1, .inr (.inl a1)), (3, .inl a2)] [] M 0 0
  refine vv_iload_n (mi := mX2_hasNumber) (pc := 0) 2 dX2_hasNumber_0 rfl rfl ?_
  refine vv_aload_n (mi := mX2_hasNumber) (pc := 1) 0 dX2_hasNumber_1 rfl rfl ?_
  obtain ⟨ht1, h⟩ := h
  refine vv_getI (mi := mX2_hasNumber) (pc := 2) 2 5 rfl ht1 fl_X2_31 (Nat.le_of_ble_eq_true rfl) dX2_hasNumber_2 ?_
  refine vv_icmp_lt (mi := mX2_hasNumber) (pc := 5) 21 dX2_hasNumber_5 rfl (fun c2 => ?_) (fun c2 => ?_)
  · replace h := h.1 c2
    refine vv_iconst (mi := mX2_hasNumber) (pc := 21) 0 dX2_hasNumber_21 rfl ?_
    exact vv_zret (mi := mX2_hasNumber) (pc := 22) dX2_hasNumber_22 rfl (Or.inl rfl) (Nat.le_of_ble_eq_true rfl) (Nat.le_of_ble_eq_true rfl) h
  · replace h := h.2 c2
    refine vv_aload_n (mi := mX2_hasNumber) (pc := 8) 0 dX2_hasNumber_8 rfl rfl ?_
    refine vv_lload_n (mi := mX2_hasNumber) (pc := 9) 1 dX2_hasNumber_9 rfl rfl ?_
    refine vv_iload_n (mi := mX2_hasNumber) (pc := 10) 2 dX2_hasNumber_10 rfl rfl ?_
    refine vv_callV (mi := mX2_hasNumber) (pc := 11) (rest := []) (As := [.inr (.inl a1), .inl a2]) (ctX2_fits (X := X) h) dX2_hasNumber_11 rfl ht1 (Nat.le_of_ble_eq_true rfl) rfl mb_X2_fits rfl ml_X2_74 im_X2_fits se_X2_fits ⟨(Nat.le_of_ble_eq_true rfl), (Nat.le_of_ble_eq_true rfl)⟩ ⟨(Nat.le_of_ble_eq_true rfl), (Nat.le_of_ble_eq_true rfl)⟩ (Nat.le_of_ble_eq_true rfl) rfl (kI_ (F := fun st M' => VV X mX2_hasNumber rX2_hasNumber (pI_ post) 14 [(0, .inr (.inr (some this))), (1, .inr (.inl a1)), (3, .inl a2)] st M' 0 0) (fun r3 M4 h => ?_))
    refine vv_if_eq (mi := mX2_hasNumber) (pc := 14) 21 dX2_hasNumber_14 rfl (fun c5 => ?_) (fun c5 => ?_)
    · replace h := h.1 c5
      refine vv_iconst (mi := mX2_hasNumber) (pc := 21) 0 dX2_hasNumber_21 rfl ?_
      exact vv_zret (mi := mX2_hasNumber) (pc := 22) dX2_hasNumber_22 rfl (Or.inl rfl) (Nat.le_of_ble_eq_true rfl) (Nat.le_of_ble_eq_true rfl) h
    · replace h := h.2 c5
      refine vv_iconst (mi := mX2_hasNumber) (pc := 17) 1 dX2_hasNumber_17 rfl ?_
      refine vv_goto (mi := mX2_hasNumber) (pc := 18) 22 dX2_hasNumber_18 rfl ?_
      exact vv_zret (mi := mX2_hasNumber) (pc := 22) dX2_hasNumber_22 rfl (Or.inr rfl) (Nat.le_of_ble_eq_true rfl) (Nat.le_of_ble_eq_true rfl) h
set_option maxHeartbeats 4000000 in
set_option maxRecDepth 100000 in
theorem ctX2_hasBehind {X : Cx_} {this : Nat} {a1 : Int32} {M : Mm} {post : Int32 → Mm → Prop} (h : PX2_hasBehind this a1 M post) : CT X mX2_hasBehind rX2_hasBehind [.inr (.inr (some this)), .inl a1] M (pI_ post) := by
  unfold PX2_hasBehind at h
  refine CT.of (by decide +kernel) (Nat.le_of_ble_eq_true rfl) ?_
  show VV X mX2_hasBehind rX2_hasBehind (pI_ post) 0 [(0, .inr (.inr (some this))), (1, .inl a1)] [] M 0 0
  refine vv_iload_n (mi := mX2_hasBehind) (pc := 0) 1 dX2_hasBehind_0 rfl rfl ?_
  refine vv_i2l (mi := mX2_hasBehind) (pc := 1) dX2_hasBehind_1 ?_
  refine vv_callSN (mi := mX2_hasBehind) (pc := 2) (rest := []) (As := [.inr (.inl (Int32.toInt64 a1))]) (ctX10_placesOf (X := X) h) dX2_hasBehind_2 mb_X10_placesOf rfl mn_X2_21 sc_X10_placesOf ⟨(Nat.le_of_ble_eq_true rfl), (Nat.le_of_ble_eq_true rfl)⟩ ⟨(Nat.le_of_ble_eq_true rfl), (Nat.le_of_ble_eq_true rfl)⟩ (Nat.le_of_ble_eq_true rfl) rfl (kI_ (F := fun st M' => VV X mX2_hasBehind rX2_hasBehind (pI_ post) 5 [(0, .inr (.inr (some this))), (1, .inl a1)] st M' 0 0) (fun r1 M2 h => ?_))
  refine vv_istore_n (mi := mX2_hasBehind) (pc := 5) [(2, .inl r1), (0, .inr (.inr (some this))), (1, .inl a1)] dX2_hasBehind_5 rfl (Nat.le_of_ble_eq_true rfl) rfl ?_
  refine vv_iload_n (mi := mX2_hasBehind) (pc := 6) 0 dX2_hasBehind_6 rfl rfl ?_
  refine vv_if_le (mi := mX2_hasBehind) (pc := 7) 37 dX2_hasBehind_7 rfl (fun c3 => ?_) (fun c3 => ?_)
  · replace h := h.1 c3
    refine vv_iconst (mi := mX2_hasBehind) (pc := 37) 0 dX2_hasBehind_37 rfl ?_
    exact vv_zret (mi := mX2_hasBehind) (pc := 38) dX2_hasBehind_38 rfl (Or.inl rfl) (Nat.le_of_ble_eq_true rfl) (Nat.le_of_ble_eq_true rfl) h
  · replace h := h.2 c3
    refine vv_iload_n (mi := mX2_hasBehind) (pc := 10) 0 dX2_hasBehind_10 rfl rfl ?_
    refine vv_aload_n (mi := mX2_hasBehind) (pc := 11) 1 dX2_hasBehind_11 rfl rfl ?_
    obtain ⟨ht4, h⟩ := h
    refine vv_callV (mi := mX2_hasBehind) (pc := 12) (rest := [.inl r1]) (As := []) (ctX2_placesBehind (X := X) h) dX2_hasBehind_12 rfl ht4 (Nat.le_of_ble_eq_true rfl) rfl mb_X2_placesBehind rfl ml_X2_78 im_X2_placesBehind se_X2_placesBehind ⟨(Nat.le_of_ble_eq_true rfl), (Nat.le_of_ble_eq_true rfl)⟩ ⟨(Nat.le_of_ble_eq_true rfl), (Nat.le_of_ble_eq_true rfl)⟩ (Nat.le_of_ble_eq_true rfl) rfl (kI_ (F := fun st M' => VV X mX2_hasBehind rX2_hasBehind (pI_ post) 15 [(2, .inl r1), (0, .inr (.inr (some this))), (1, .inl a1)] st M' 0 0) (fun r5 M6 h => ?_))
    refine vv_icmp_ne (mi := mX2_hasBehind) (pc := 15) 37 dX2_hasBehind_15 rfl (fun c7 => ?_) (fun c7 => ?_)
    · replace h := h.1 c7
      refine vv_iconst (mi := mX2_hasBehind) (pc := 37) 0 dX2_hasBehind_37 rfl ?_
      exact vv_zret (mi := mX2_hasBehind) (pc := 38) dX2_hasBehind_38 rfl (Or.inl rfl) (Nat.le_of_ble_eq_true rfl) (Nat.le_of_ble_eq_true rfl) h
    · replace h := h.2 c7
      refine vv_aload_n (mi := mX2_hasBehind) (pc := 18) 1 dX2_hasBehind_18 rfl rfl ?_
      obtain ⟨ht8, h⟩ := h
      refine vv_getI (mi := mX2_hasBehind) (pc := 19) 2 4 rfl ht8 fl_X2_28 (Nat.le_of_ble_eq_true rfl) dX2_hasBehind_19 ?_
      refine vv_iload_n (mi := mX2_hasBehind) (pc := 22) 2 dX2_hasBehind_22 rfl rfl ?_
      refine vv_i2l (mi := mX2_hasBehind) (pc := 23) dX2_hasBehind_23 ?_
      refine vv_iload_n (mi := mX2_hasBehind) (pc := 24) 0 dX2_hasBehind_24 rfl rfl ?_
      refine vv_iconst (mi := mX2_hasBehind) (pc := 25) 0 dX2_hasBehind_25 rfl ?_
      refine vv_callSN (mi := mX2_hasBehind) (pc := 26) (rest := [.inl (ddI M6 this 4)]) (As := [.inr (.inl (Int32.toInt64 a1)), .inl r1, .inl 0]) (ctX10_figureBit (X := X) h) dX2_hasBehind_26 mb_X10_figureBit rfl mn_X2_44 sc_X10_figureBit ⟨(Nat.le_of_ble_eq_true rfl), (Nat.le_of_ble_eq_true rfl)⟩ ⟨(Nat.le_of_ble_eq_true rfl), (Nat.le_of_ble_eq_true rfl)⟩ (Nat.le_of_ble_eq_true rfl) rfl (kI_ (F := fun st M' => VV X mX2_hasBehind rX2_hasBehind (pI_ post) 29 [(2, .inl r1), (0, .inr (.inr (some this))), (1, .inl a1)] st M' 0 0) (fun r9 M10 h => ?_))
      refine vv_iand (mi := mX2_hasBehind) (pc := 29) dX2_hasBehind_29 ?_
      refine vv_if_eq (mi := mX2_hasBehind) (pc := 30) 37 dX2_hasBehind_30 rfl (fun c11 => ?_) (fun c11 => ?_)
      · replace h := h.1 c11
        refine vv_iconst (mi := mX2_hasBehind) (pc := 37) 0 dX2_hasBehind_37 rfl ?_
        exact vv_zret (mi := mX2_hasBehind) (pc := 38) dX2_hasBehind_38 rfl (Or.inl rfl) (Nat.le_of_ble_eq_true rfl) (Nat.le_of_ble_eq_true rfl) h
      · replace h := h.2 c11
        refine vv_iconst (mi := mX2_hasBehind) (pc := 33) 1 dX2_hasBehind_33 rfl ?_
        refine vv_goto (mi := mX2_hasBehind) (pc := 34) 38 dX2_hasBehind_34 rfl ?_
        exact vv_zret (mi := mX2_hasBehind) (pc := 38) dX2_hasBehind_38 rfl (Or.inr rfl) (Nat.le_of_ble_eq_true rfl) (Nat.le_of_ble_eq_true rfl) h
set_option maxHeartbeats 4000000 in
set_option maxRecDepth 100000 in
theorem ctX10_tens {X : Cx_} {a1 : Int32} {M : Mm} {post : Int64 → Mm → Prop} (h : PX10_tens a1 M post) : CT X mX10_tens rX10_tens [.inl a1] M (pL_ post) := by
  unfold PX10_tens at h
  refine CT.of (by decide +kernel) (Nat.le_of_ble_eq_true rfl) ?_
  show VV X mX10_tens rX10_tens (pL_ post) 0 [(0, .inl a1)] [] M 0 0
  refine vv_iload_n (mi := mX10_tens) (pc := 0) 0 dX10_tens_0 rfl rfl ?_
  refine vv_if_lt (mi := mX10_tens) (pc := 1) 20 dX10_tens_1 rfl (fun c1 => ?_) (fun c1 => ?_)
  · replace h := h.1 c1
    refine vv_lconst (mi := mX10_tens) (pc := 20) 1 dX10_tens_20 rfl ?_
    exact vv_lret (mi := mX10_tens) (pc := 21) dX10_tens_21 rfl (Nat.le_of_ble_eq_true rfl) (Nat.le_of_ble_eq_true rfl) h
  · replace h := h.2 c1
    refine vv_iload_n (mi := mX10_tens) (pc := 4) 0 dX10_tens_4 rfl rfl ?_
    refine vv_gets (mi := mX10_tens) (pc := 5) gs_X10_294 dX10_tens_5 ?_
    refine vv_tlen (mi := mX10_tens) (pc := 8) dX10_tens_8 ?_
    refine vv_icmp_ge (mi := mX10_tens) (pc := 9) 20 dX10_tens_9 rfl (fun c2 => ?_) (fun c2 => ?_)
    · replace h := h.1 c2
      refine vv_lconst (mi := mX10_tens) (pc := 20) 1 dX10_tens_20 rfl ?_
      exact vv_lret (mi := mX10_tens) (pc := 21) dX10_tens_21 rfl (Nat.le_of_ble_eq_true rfl) (Nat.le_of_ble_eq_true rfl) h
    · replace h := h.2 c2
      refine vv_gets (mi := mX10_tens) (pc := 12) gs_X10_294 dX10_tens_12 ?_
      refine vv_iload_n (mi := mX10_tens) (pc := 15) 0 dX10_tens_15 rfl rfl ?_
      obtain ⟨hi3, h⟩ := h
      refine vv_tld (mi := mX10_tens) (pc := 16) hi3 dX10_tens_16 ?_
      refine vv_goto (mi := mX10_tens) (pc := 17) 21 dX10_tens_17 rfl ?_
      exact vv_lret (mi := mX10_tens) (pc := 21) dX10_tens_21 rfl (Nat.le_of_ble_eq_true rfl) (Nat.le_of_ble_eq_true rfl) h
set_option maxHeartbeats 4000000 in
set_option maxRecDepth 100000 in
theorem ctX2_numberWith {X : Cx_} {this : Nat} {a1 : Int32} {M : Mm} {post : Int64 → Mm → Prop} (h : PX2_numberWith this a1 M post) : CT X mX2_numberWith rX2_numberWith [.inr (.inr (some this)), .inl a1] M (pL_ post) := by
  unfold PX2_numberWith at h
  refine CT.of (by decide +kernel) (Nat.le_of_ble_eq_true rfl) ?_
  show VV X mX2_numberWith rX2_numberWith (pL_ post) 0 [(0, .inr (.inr (some this))), (1, .inl a1)] [] M 0 0
  refine vv_aload_n (mi := mX2_numberWith) (pc := 0) 0 dX2_numberWith_0 rfl rfl ?_
  obtain ⟨ht1, h⟩ := h
  refine vv_callV (mi := mX2_numberWith) (pc := 1) (rest := []) (As := []) (ctX2_placesBehind (X := X) h) dX2_numberWith_1 rfl ht1 (Nat.le_of_ble_eq_true rfl) rfl mb_X2_placesBehind rfl ml_X2_78 im_X2_placesBehind se_X2_placesBehind ⟨(Nat.le_of_ble_eq_true rfl), (Nat.le_of_ble_eq_true rfl)⟩ ⟨(Nat.le_of_ble_eq_true rfl), (Nat.le_of_ble_eq_true rfl)⟩ (Nat.le_of_ble_eq_true rfl) rfl (kI_ (F := fun st M' => VV X mX2_numberWith rX2_numberWith (pL_ post) 4 [(0, .inr (.inr (some this))), (1, .inl a1)] st M' 0 0) (fun r2 M3 h => ?_))
  refine vv_callSN (mi := mX2_numberWith) (pc := 4) (rest := []) (As := [.inl r2]) (ctX10_tens (X := X) h) dX2_numberWith_4 mb_X10_tens rfl mn_X2_82 sc_X10_tens ⟨(Nat.le_of_ble_eq_true rfl), (Nat.le_of_ble_eq_true rfl)⟩ ⟨(Nat.le_of_ble_eq_true rfl), (Nat.le_of_ble_eq_true rfl)⟩ (Nat.le_of_ble_eq_true rfl) rfl (kL_ (F := fun st M' => VV X mX2_numberWith rX2_numberWith (pL_ post) 7 [(0, .inr (.inr (some this))), (1, .inl a1)] st M' 0 0) (fun r4 M5 h => ?_))
  refine vv_lstore_n (mi := mX2_numberWith) (pc := 7) [(2, .inr (.inl r4)), (0, .inr (.inr (some this))), (1, .inl a1)] dX2_numberWith_7 rfl (Nat.le_of_ble_eq_true rfl) rfl ?_
  refine vv_aload_n (mi := mX2_numberWith) (pc := 8) 1 dX2_numberWith_8 rfl rfl ?_
  obtain ⟨ht6, h⟩ := h
  refine vv_getI (mi := mX2_numberWith) (pc := 9) 2 2 rfl ht6 fl_X2_18 (Nat.le_of_ble_eq_true rfl) dX2_numberWith_9 ?_
  refine vv_i2l (mi := mX2_numberWith) (pc := 12) dX2_numberWith_12 ?_
  refine vv_lload_n (mi := mX2_numberWith) (pc := 13) 0 dX2_numberWith_13 rfl rfl ?_
  refine vv_lmul (mi := mX2_numberWith) (pc := 14) dX2_numberWith_14 ?_
  refine vv_iload_n (mi := mX2_numberWith) (pc := 15) 2 dX2_numberWith_15 rfl rfl ?_
  refine vv_i2l (mi := mX2_numberWith) (pc := 16) dX2_numberWith_16 ?_
  refine vv_lload_n (mi := mX2_numberWith) (pc := 17) 0 dX2_numberWith_17 rfl rfl ?_
  refine vv_lsub (mi := mX2_numberWith) (pc := 18) dX2_numberWith_18 ?_
  refine vv_ladd (mi := mX2_numberWith) (pc := 19) dX2_numberWith_19 ?_
  exact vv_lret (mi := mX2_numberWith) (pc := 20) dX2_numberWith_20 rfl (Nat.le_of_ble_eq_true rfl) (Nat.le_of_ble_eq_true rfl) h
set_option maxHeartbeats 4000000 in
set_option maxRecDepth 100000 in
theorem bX2_clashesWith_2 {X : Cx_} {kb2 : Nat → (Option Nat) → Int32 → Mm → Prop} {post : Int32 → Mm → Prop} (hb2 : ∀ (this : Nat) (x1 : Option Nat) (x2 : Int32) (M : Mm), kb2 this x1 x2 M → VV X mX2_clashesWith rX2_clashesWith (pI_ post) 2 [(0, .inr (.inr (some this))), (1, .inr (.inr x1)), (2, .inl x2)] [] M 0 0) {this : Nat} {x1 : Option Nat} {x2 : Int32} {M : Mm} (h : BX2_clashesWith_2 kb2 post this x1 x2 M) : VV X mX2_clashesWith rX2_clashesWith (pI_ post) 2 [(0, .inr (.inr (some this))), (1, .inr (.inr x1)), (2, .inl x2)] [] M 0 0 := by
  unfold BX2_clashesWith_2 at h
  refine vv_iload_n (mi := mX2_clashesWith) (pc := 2) 2 dX2_clashesWith_2 rfl rfl ?_
  refine vv_bipush (mi := mX2_clashesWith) (pc := 3) 7 dX2_clashesWith_3 rfl ?_
  refine vv_icmp_gt (mi := mX2_clashesWith) (pc := 5) 30 dX2_clashesWith_5 rfl (fun c1 => ?_) (fun c1 => ?_)
  · replace h := h.1 c1
    refine vv_iconst (mi := mX2_clashesWith) (pc := 30) 1 dX2_clashesWith_30 rfl ?_
    exact vv_zret (mi := mX2_clashesWith) (pc := 31) dX2_clashesWith_31 rfl (Or.inr rfl) (Nat.le_of_ble_eq_true rfl) (Nat.le_of_ble_eq_true rfl) h
  · replace h := h.2 c1
    refine vv_aload_n (mi := mX2_clashesWith) (pc := 8) 0 dX2_clashesWith_8 rfl rfl ?_
    refine vv_iload_n (mi := mX2_clashesWith) (pc := 9) 2 dX2_clashesWith_9 rfl rfl ?_
    obtain ⟨ht2, h⟩ := h
    refine vv_callV (mi := mX2_clashesWith) (pc := 10) (rest := []) (As := [.inl x2]) (ctX2_figuresAt (X := X) h) dX2_clashesWith_10 rfl ht2 (Nat.le_of_ble_eq_true rfl) rfl mb_X2_figuresAt rfl ml_X2_70 im_X2_figuresAt se_X2_figuresAt ⟨(Nat.le_of_ble_eq_true rfl), (Nat.le_of_ble_eq_true rfl)⟩ ⟨(Nat.le_of_ble_eq_true rfl), (Nat.le_of_ble_eq_true rfl)⟩ (Nat.le_of_ble_eq_true rfl) rfl (kI_ (F := fun st M' => VV X mX2_clashesWith rX2_clashesWith (pI_ post) 13 [(0, .inr (.inr (some this))), (1, .inr (.inr x1)), (2, .inl x2)] st M' 0 0) (fun r3 M4 h => ?_))
    refine vv_aload_n (mi := mX2_clashesWith) (pc := 13) 1 dX2_clashesWith_13 rfl rfl ?_
    refine vv_iload_n (mi := mX2_clashesWith) (pc := 14) 2 dX2_clashesWith_14 rfl rfl ?_
    obtain ⟨aq5, hs6, h⟩ := h
    obtain ⟨ht7, h⟩ := h
    refine vv_callV (mi := mX2_clashesWith) (pc := 15) (rest := [.inl r3]) (As := [.inl x2]) (ctX2_figuresAt (X := X) h) dX2_clashesWith_15 hs6 ht7 (Nat.le_of_ble_eq_true rfl) rfl mb_X2_figuresAt rfl ml_X2_70 im_X2_figuresAt se_X2_figuresAt ⟨(Nat.le_of_ble_eq_true rfl), (Nat.le_of_ble_eq_true rfl)⟩ ⟨(Nat.le_of_ble_eq_true rfl), (Nat.le_of_ble_eq_true rfl)⟩ (Nat.le_of_ble_eq_true rfl) rfl (kI_ (F := fun st M' => VV X mX2_clashesWith rX2_clashesWith (pI_ post) 18 [(0, .inr (.inr (some this))), (1, .inr (.inr x1)), (2, .inl x2)] st M' 0 0) (fun r8 M9 h => ?_))
    refine vv_iand (mi := mX2_clashesWith) (pc := 18) dX2_clashesWith_18 ?_
    refine vv_if_ne (mi := mX2_clashesWith) (pc := 19) 24 dX2_clashesWith_19 rfl (fun c10 => ?_) (fun c10 => ?_)
    · replace h := h.1 c10
      refine vv_iinc (mi := mX2_clashesWith) (pc := 24) (x2 + 1) 2 [(2, .inl (x2 + 1)), (0, .inr (.inr (some this))), (1, .inr (.inr x1))] dX2_clashesWith_24 rfl rfl (Nat.le_of_ble_eq_true rfl) rfl ?_
      refine vv_goto (mi := mX2_clashesWith) (pc := 27) 2 dX2_clashesWith_27 rfl ?_
      refine vv_sub (mi := mX2_clashesWith) [(0, .inr (.inr (some this))), (1, .inr (.inr x1)), (2, .inl (x2 + 1))] [1, 2, 0] rfl ?_
      exact hb2 _ _ _ _ h
    · replace h := h.2 c10
      refine vv_iconst (mi := mX2_clashesWith) (pc := 22) 0 dX2_clashesWith_22 rfl ?_
      exact vv_zret (mi := mX2_clashesWith) (pc := 23) dX2_clashesWith_23 rfl (Or.inl rfl) (Nat.le_of_ble_eq_true rfl) (Nat.le_of_ble_eq_true rfl) h
theorem loX2_clashesWith_2 {X : Cx_}  {post : Int32 → Mm → Prop}  : ∀ (fu : Nat) {this : Nat} {x1 : Option Nat} {x2 : Int32} {M : Mm}, DX2_clashesWith_2  post fu this x1 x2 M → VV X mX2_clashesWith rX2_clashesWith (pI_ post) 2 [(0, .inr (.inr (some this))), (1, .inr (.inr x1)), (2, .inl x2)] [] M 0 0
  | 0, _, _, _, _, h => False.elim h
  | fu + 1, _, _, _, _, h => bX2_clashesWith_2 (fun this x1 x2 M h => loX2_clashesWith_2  fu h) h
set_option maxHeartbeats 4000000 in
set_option maxRecDepth 100000 in
theorem ctX2_clashesWith {X : Cx_} {this : Nat} {a1 : Option Nat} {M : Mm} {post : Int32 → Mm → Prop} (h : PX2_clashesWith this a1 M post) : CT X mX2_clashesWith rX2_clashesWith [.inr (.inr (some this)), .inr (.inr a1)] M (pI_ post) := by
  unfold PX2_clashesWith at h
  refine CT.of (by decide +kernel) (Nat.le_of_ble_eq_true rfl) ?_
  show VV X mX2_clashesWith rX2_clashesWith (pI_ post) 0 [(0, .inr (.inr (some this))), (1, .inr (.inr a1))] [] M 0 0
  refine vv_iconst (mi := mX2_clashesWith) (pc := 0) 0 dX2_clashesWith_0 rfl ?_
  refine vv_istore_n (mi := mX2_clashesWith) (pc := 1) [(2, .inl 0), (0, .inr (.inr (some this))), (1, .inr (.inr a1))] dX2_clashesWith_1 rfl (Nat.le_of_ble_eq_true rfl) rfl ?_
  refine vv_sub (mi := mX2_clashesWith) [(0, .inr (.inr (some this))), (1, .inr (.inr a1)), (2, .inl 0)] [1, 2, 0] rfl ?_
  obtain ⟨fu, h⟩ := h
  exact loX2_clashesWith_2 (X := X)  fu h
set_option maxHeartbeats 4000000 in
set_option maxRecDepth 100000 in
theorem ctX2_noteClash {X : Cx_} {this : Nat} {a1 : Int32} {M : Mm} {post : Mm → Prop} (h : PX2_noteClash this a1 M post) : CT X mX2_noteClash rX2_noteClash [.inr (.inr (some this)), .inl a1] M (pV_ post) := by
  unfold PX2_noteClash at h
  refine CT.of (by decide +kernel) (Nat.le_of_ble_eq_true rfl) ?_
  show VV X mX2_noteClash rX2_noteClash (pV_ post) 0 [(0, .inr (.inr (some this))), (1, .inl a1)] [] M 0 0
  refine vv_iload_n (mi := mX2_noteClash) (pc := 0) 1 dX2_noteClash_0 rfl rfl ?_
  refine vv_bipush (mi := mX2_noteClash) (pc := 1) 64 dX2_noteClash_1 rfl ?_
  refine vv_icmp_ge (mi := mX2_noteClash) (pc := 3) 21 dX2_noteClash_3 rfl (fun c1 => ?_) (fun c1 => ?_)
  · replace h := h.1 c1
    refine vv_aload_n (mi := mX2_noteClash) (pc := 21) 0 dX2_noteClash_21 rfl rfl ?_
    refine vv_dup (mi := mX2_noteClash) (pc := 22) dX2_noteClash_22 rfl ?_
    obtain ⟨ht2, h⟩ := h
    refine vv_getL (mi := mX2_noteClash) (pc := 23) 2 17 rfl ht2 fl_X2_90 (Nat.le_of_ble_eq_true rfl) dX2_noteClash_23 ?_
    refine vv_lconst (mi := mX2_noteClash) (pc := 26) 1 dX2_noteClash_26 rfl ?_
    refine vv_iload_n (mi := mX2_noteClash) (pc := 27) 1 dX2_noteClash_27 rfl rfl ?_
    refine vv_bipush (mi := mX2_noteClash) (pc := 28) 64 dX2_noteClash_28 rfl ?_
    refine vv_isub (mi := mX2_noteClash) (pc := 30) dX2_noteClash_30 ?_
    refine vv_lshl (mi := mX2_noteClash) (pc := 31) dX2_noteClash_31 ?_
    refine vv_lor (mi := mX2_noteClash) (pc := 32) dX2_noteClash_32 ?_
    obtain ⟨M3, eM3⟩ : ∃ z : Mm, z = suL M this 17 ((ddL M this 17) ||| (1 <<< ((Int32.toInt64 (a1 - 64)) &&& 63))) := ⟨_, rfl⟩
    replace h := h _ eM3
    refine vv_putL (mi := mX2_noteClash) (pc := 33) 2 17 rfl ht2 fq_X2_90 (fun q => by cases q) rfl (Nat.le_of_ble_eq_true rfl) dX2_noteClash_33 eM3 ?_
    exact vv_vret (mi := mX2_noteClash) (pc := 36) dX2_noteClash_36 rfl (Nat.le_of_ble_eq_true rfl) (Nat.le_of_ble_eq_true rfl) h
  · replace h := h.2 c1
    refine vv_aload_n (mi := mX2_noteClash) (pc := 6) 0 dX2_noteClash_6 rfl rfl ?_
    refine vv_dup (mi := mX2_noteClash) (pc := 7) dX2_noteClash_7 rfl ?_
    obtain ⟨ht4, h⟩ := h
    refine vv_getL (mi := mX2_noteClash) (pc := 8) 2 16 rfl ht4 fl_X2_86 (Nat.le_of_ble_eq_true rfl) dX2_noteClash_8 ?_
    refine vv_lconst (mi := mX2_noteClash) (pc := 11) 1 dX2_noteClash_11 rfl ?_
    refine vv_iload_n (mi := mX2_noteClash) (pc := 12) 1 dX2_noteClash_12 rfl rfl ?_
    refine vv_lshl (mi := mX2_noteClash) (pc := 13) dX2_noteClash_13 ?_
    refine vv_lor (mi := mX2_noteClash) (pc := 14) dX2_noteClash_14 ?_
    obtain ⟨M5, eM5⟩ : ∃ z : Mm, z = suL M this 16 ((ddL M this 16) ||| (1 <<< ((Int32.toInt64 a1) &&& 63))) := ⟨_, rfl⟩
    replace h := h _ eM5
    refine vv_putL (mi := mX2_noteClash) (pc := 15) 2 16 rfl ht4 fq_X2_86 (fun q => by cases q) rfl (Nat.le_of_ble_eq_true rfl) dX2_noteClash_15 eM5 ?_
    refine vv_goto (mi := mX2_noteClash) (pc := 18) 36 dX2_noteClash_18 rfl ?_
    exact vv_vret (mi := mX2_noteClash) (pc := 36) dX2_noteClash_36 rfl (Nat.le_of_ble_eq_true rfl) (Nat.le_of_ble_eq_true rfl) h
set_option maxHeartbeats 4000000 in
set_option maxRecDepth 100000 in
theorem bX2_hasClash_17 {X : Cx_}  {post : Int32 → Mm → Prop}  {x1 : Int32} {s0 : Int64} {M : Mm} (h : BX2_hasClash_17  post x1 s0 M) : VV X mX2_hasClash rX2_hasClash (pI_ post) 17 [(1, .inl x1)] [.inr (.inl s0)] M 0 0 := by
  unfold BX2_hasClash_17 at h
  refine vv_lstore_n (mi := mX2_hasClash) (pc := 17) [(2, .inr (.inl s0)), (1, .inl x1)] dX2_hasClash_17 rfl (Nat.le_of_ble_eq_true rfl) rfl ?_
  refine vv_lload_n (mi := mX2_hasClash) (pc := 18) 0 dX2_hasClash_18 rfl rfl ?_
  refine vv_iload_n (mi := mX2_hasClash) (pc := 19) 1 dX2_hasClash_19 rfl rfl ?_
  refine vv_bipush (mi := mX2_hasClash) (pc := 20) 63 dX2_hasClash_20 rfl ?_
  refine vv_iand (mi := mX2_hasClash) (pc := 22) dX2_hasClash_22 ?_
  refine vv_lshr (mi := mX2_hasClash) (pc := 23) dX2_hasClash_23 ?_
  refine vv_lconst (mi := mX2_hasClash) (pc := 24) 1 dX2_hasClash_24 rfl ?_
  refine vv_land (mi := mX2_hasClash) (pc := 25) dX2_hasClash_25 ?_
  refine vv_lconst (mi := mX2_hasClash) (pc := 26) 0 dX2_hasClash_26 rfl ?_
  refine vv_lcmp (mi := mX2_hasClash) (pc := 27) dX2_hasClash_27 ?_
  refine vv_if_eq (mi := mX2_hasClash) (pc := 28) 35 dX2_hasClash_28 rfl (fun c4 => ?_) (fun c4 => ?_)
  · replace h := h.1 c4
    refine vv_iconst (mi := mX2_hasClash) (pc := 35) 0 dX2_hasClash_35 rfl ?_
    exact vv_zret (mi := mX2_hasClash) (pc := 36) dX2_hasClash_36 rfl (Or.inl rfl) (Nat.le_of_ble_eq_true rfl) (Nat.le_of_ble_eq_true rfl) h
  · replace h := h.2 c4
    refine vv_iconst (mi := mX2_hasClash) (pc := 31) 1 dX2_hasClash_31 rfl ?_
    refine vv_goto (mi := mX2_hasClash) (pc := 32) 36 dX2_hasClash_32 rfl ?_
    exact vv_zret (mi := mX2_hasClash) (pc := 36) dX2_hasClash_36 rfl (Or.inr rfl) (Nat.le_of_ble_eq_true rfl) (Nat.le_of_ble_eq_true rfl) h
set_option maxHeartbeats 4000000 in
set_option maxRecDepth 100000 in
theorem ctX2_hasClash {X : Cx_} {this : Nat} {a1 : Int32} {M : Mm} {post : Int32 → Mm → Prop} (h : PX2_hasClash this a1 M post) : CT X mX2_hasClash rX2_hasClash [.inr (.inr (some this)), .inl a1] M (pI_ post) := by
  unfold PX2_hasClash at h
  refine CT.of (by decide +kernel) (Nat.le_of_ble_eq_true rfl) ?_
  show VV X mX2_hasClash rX2_hasClash (pI_ post) 0 [(0, .inr (.inr (some this))), (1, .inl a1)] [] M 0 0
  refine vv_iload_n (mi := mX2_hasClash) (pc := 0) 1 dX2_hasClash_0 rfl rfl ?_
  refine vv_bipush (mi := mX2_hasClash) (pc := 1) 64 dX2_hasClash_1 rfl ?_
  refine vv_icmp_ge (mi := mX2_hasClash) (pc := 3) 13 dX2_hasClash_3 rfl (fun c1 => ?_) (fun c1 => ?_)
  · replace h := h.1 c1
    refine vv_aload_n (mi := mX2_hasClash) (pc := 13) 0 dX2_hasClash_13 rfl rfl ?_
    obtain ⟨ht2, h⟩ := h
    refine vv_getL (mi := mX2_hasClash) (pc := 14) 2 17 rfl ht2 fl_X2_90 (Nat.le_of_ble_eq_true rfl) dX2_hasClash_14 ?_
    refine vv_sub (mi := mX2_hasClash) [(1, .inl a1)] [1] rfl ?_
    exact bX2_hasClash_17 (X := X)  h
  · replace h := h.2 c1
    refine vv_aload_n (mi := mX2_hasClash) (pc := 6) 0 dX2_hasClash_6 rfl rfl ?_
    obtain ⟨ht3, h⟩ := h
    refine vv_getL (mi := mX2_hasClash) (pc := 7) 2 16 rfl ht3 fl_X2_86 (Nat.le_of_ble_eq_true rfl) dX2_hasClash_7 ?_
    refine vv_goto (mi := mX2_hasClash) (pc := 10) 17 dX2_hasClash_10 rfl ?_
    refine vv_sub (mi := mX2_hasClash) [(1, .inl a1)] [1] rfl ?_
    exact bX2_hasClash_17 (X := X)  h
set_option maxHeartbeats 4000000 in
set_option maxRecDepth 100000 in
theorem ctX2_nextFor {X : Cx_} {this : Nat} {a1 : Int32} {M : Mm} {post : Option Nat → Mm → Prop} (h : PX2_nextFor this a1 M post) : CT X mX2_nextFor rX2_nextFor [.inr (.inr (some this)), .inl a1] M (pR_ post) := by
  unfold PX2_nextFor at h
  refine CT.of (by decide +kernel) (Nat.le_of_ble_eq_true rfl) ?_
  show VV X mX2_nextFor rX2_nextFor (pR_ post) 0 [(0, .inr (.inr (some this))), (1, .inl a1)] [] M 0 0
  refine vv_aload_n (mi := mX2_nextFor) (pc := 0) 0 dX2_nextFor_0 rfl rfl ?_
  obtain ⟨ht1, h⟩ := h
  refine vv_getR (mi := mX2_nextFor) (pc := 1) 2 13 rfl ht1 fl_X2_97 (Nat.le_of_ble_eq_true rfl) dX2_nextFor_1 ?_
  refine vv_ifnull (mi := mX2_nextFor) (pc := 4) 18 dX2_nextFor_4 rfl (fun c2 => ?_) (fun aq3 c2 => ?_)
  · replace h := h.1 c2
    refine vv_null (mi := mX2_nextFor) (pc := 18) dX2_nextFor_18 ?_
    exact vv_aret (mi := mX2_nextFor) (pc := 19) dX2_nextFor_19 rfl (Nat.le_of_ble_eq_true rfl) (Nat.le_of_ble_eq_true rfl) h
  · replace h := h.2 aq3 c2
    refine vv_aload_n (mi := mX2_nextFor) (pc := 7) 0 dX2_nextFor_7 rfl rfl ?_
    refine vv_getI (mi := mX2_nextFor) (pc := 8) 2 10 rfl ht1 fl_X2_51 (Nat.le_of_ble_eq_true rfl) dX2_nextFor_8 ?_
    refine vv_aload_n (mi := mX2_nextFor) (pc := 11) 0 dX2_nextFor_11 rfl rfl ?_
    refine vv_getI (mi := mX2_nextFor) (pc := 12) 2 12 rfl ht1 fl_X2_57 (Nat.le_of_ble_eq_true rfl) dX2_nextFor_12 ?_
    refine vv_icmp_eq (mi := mX2_nextFor) (pc := 15) 20 dX2_nextFor_15 rfl (fun c4 => ?_) (fun c4 => ?_)
    · replace h := h.1 c4
      refine vv_aload_n (mi := mX2_nextFor) (pc := 20) 0 dX2_nextFor_20 rfl rfl ?_
      refine vv_getR (mi := mX2_nextFor) (pc := 21) 2 13 rfl ht1 fl_X2_97 (Nat.le_of_ble_eq_true rfl) dX2_nextFor_21 ?_
      obtain ⟨ht5, h⟩ := h
      refine vv_getI (mi := mX2_nextFor) (pc := 24) 2 4 c2 ht5 fl_X2_28 (Nat.le_of_ble_eq_true rfl) dX2_nextFor_24 ?_
      refine vv_iload_n (mi := mX2_nextFor) (pc := 27) 1 dX2_nextFor_27 rfl rfl ?_
      refine vv_iand (mi := mX2_nextFor) (pc := 28) dX2_nextFor_28 ?_
      refine vv_if_eq (mi := mX2_nextFor) (pc := 29) 39 dX2_nextFor_29 rfl (fun c6 => ?_) (fun c6 => ?_)
      · replace h := h.1 c6
        refine vv_aload_n (mi := mX2_nextFor) (pc := 39) 0 dX2_nextFor_39 rfl rfl ?_
        refine vv_getR (mi := mX2_nextFor) (pc := 40) 2 14 rfl ht1 fl_X2_101 (Nat.le_of_ble_eq_true rfl) dX2_nextFor_40 ?_
        exact vv_aret (mi := mX2_nextFor) (pc := 43) dX2_nextFor_43 rfl (Nat.le_of_ble_eq_true rfl) (Nat.le_of_ble_eq_true rfl) h
      · replace h := h.2 c6
        refine vv_aload_n (mi := mX2_nextFor) (pc := 32) 0 dX2_nextFor_32 rfl rfl ?_
        refine vv_getR (mi := mX2_nextFor) (pc := 33) 2 13 rfl ht1 fl_X2_97 (Nat.le_of_ble_eq_true rfl) dX2_nextFor_33 ?_
        refine vv_goto (mi := mX2_nextFor) (pc := 36) 43 dX2_nextFor_36 rfl ?_
        exact vv_aret (mi := mX2_nextFor) (pc := 43) dX2_nextFor_43 rfl (Nat.le_of_ble_eq_true rfl) (Nat.le_of_ble_eq_true rfl) h
    · replace h := h.2 c4
      refine vv_null (mi := mX2_nextFor) (pc := 18) dX2_nextFor_18 ?_
      exact vv_aret (mi := mX2_nextFor) (pc := 19) dX2_nextFor_19 rfl (Nat.le_of_ble_eq_true rfl) (Nat.le_of_ble_eq_true rfl) h
set_option maxHeartbeats 4000000 in
set_option maxRecDepth 100000 in
theorem bX2_followedTo_5 {X : Cx_} {kb5 : Int32 → Int32 → (Option Nat) → Int32 → Mm → Prop} {post : Option Nat → Mm → Prop} (hb5 : ∀ (x1 : Int32) (x2 : Int32) (x3 : Option Nat) (x4 : Int32) (M : Mm), kb5 x1 x2 x3 x4 M → VV X mX2_followedTo rX2_followedTo (pR_ post) 5 [(1, .inl x1), (2, .inl x2), (3, .inr (.inr x3)), (4, .inl x4)] [] M 0 0) {x1 : Int32} {x2 : Int32} {x3 : Option Nat} {x4 : Int32} {M : Mm} (h : BX2_followedTo_5 kb5 post x1 x2 x3 x4 M) : VV X mX2_followedTo rX2_followedTo (pR_ post) 5 [(1, .inl x1), (2, .inl x2), (3, .inr (.inr x3)), (4, .inl x4)] [] M 0 0 := by
  unfold BX2_followedTo_5 at h
  refine vv_iload (mi := mX2_followedTo) (pc := 5) 3 dX2_followedTo_5 rfl ?_
  refine vv_bipush (mi := mX2_followedTo) (pc := 7) 120 dX2_followedTo_7 rfl ?_
  refine vv_icmp_ge (mi := mX2_followedTo) (pc := 9) 46 dX2_followedTo_9 rfl (fun c1 => ?_) (fun c1 => ?_)
  · replace h := h.1 c1
    refine vv_null (mi := mX2_followedTo) (pc := 46) dX2_followedTo_46 ?_
    exact vv_aret (mi := mX2_followedTo) (pc := 47) dX2_followedTo_47 rfl (Nat.le_of_ble_eq_true rfl) (Nat.le_of_ble_eq_true rfl) h
  · replace h := h.2 c1
    refine vv_aload_n (mi := mX2_followedTo) (pc := 12) 2 dX2_followedTo_12 rfl rfl ?_
    refine vv_ifnull (mi := mX2_followedTo) (pc := 13) 46 dX2_followedTo_13 rfl (fun c2 => ?_) (fun aq3 c2 => ?_)
    · replace h := h.1 c2
      refine vv_null (mi := mX2_followedTo) (pc := 46) dX2_followedTo_46 ?_
      exact vv_aret (mi := mX2_followedTo) (pc := 47) dX2_followedTo_47 rfl (Nat.le_of_ble_eq_true rfl) (Nat.le_of_ble_eq_true rfl) h
    · replace h := h.2 aq3 c2
      refine vv_aload_n (mi := mX2_followedTo) (pc := 16) 2 dX2_followedTo_16 rfl rfl ?_
      obtain ⟨ht4, h⟩ := h
      refine vv_getI (mi := mX2_followedTo) (pc := 17) 2 10 c2 ht4 fl_X2_51 (Nat.le_of_ble_eq_true rfl) dX2_followedTo_17 ?_
      refine vv_iconst (mi := mX2_followedTo) (pc := 20) (-1) dX2_followedTo_20 rfl ?_
      refine vv_icmp_eq (mi := mX2_followedTo) (pc := 21) 32 dX2_followedTo_21 rfl (fun c5 => ?_) (fun c5 => ?_)
      · replace h := h.1 c5
        refine vv_aload_n (mi := mX2_followedTo) (pc := 32) 2 dX2_followedTo_32 rfl rfl ?_
        exact vv_aret (mi := mX2_followedTo) (pc := 33) dX2_followedTo_33 rfl (Nat.le_of_ble_eq_true rfl) (Nat.le_of_ble_eq_true rfl) h
      · replace h := h.2 c5
        refine vv_iload_n (mi := mX2_followedTo) (pc := 24) 1 dX2_followedTo_24 rfl rfl ?_
        refine vv_aload_n (mi := mX2_followedTo) (pc := 25) 2 dX2_followedTo_25 rfl rfl ?_
        refine vv_getI (mi := mX2_followedTo) (pc := 26) 2 10 c2 ht4 fl_X2_51 (Nat.le_of_ble_eq_true rfl) dX2_followedTo_26 ?_
        refine vv_icmp_ge (mi := mX2_followedTo) (pc := 29) 34 dX2_followedTo_29 rfl (fun c6 => ?_) (fun c6 => ?_)
        · replace h := h.1 c6
          refine vv_aload_n (mi := mX2_followedTo) (pc := 34) 2 dX2_followedTo_34 rfl rfl ?_
          refine vv_iload_n (mi := mX2_followedTo) (pc := 35) 0 dX2_followedTo_35 rfl rfl ?_
          refine vv_callV (mi := mX2_followedTo) (pc := 36) (rest := []) (As := [.inl x1]) (ctX2_nextFor (X := X) h) dX2_followedTo_36 c2 ht4 (Nat.le_of_ble_eq_true rfl) rfl mb_X2_nextFor rfl ml_X2_93 im_X2_nextFor se_X2_nextFor ⟨(Nat.le_of_ble_eq_true rfl), (Nat.le_of_ble_eq_true rfl)⟩ ⟨(Nat.le_of_ble_eq_true rfl), (Nat.le_of_ble_eq_true rfl)⟩ (Nat.le_of_ble_eq_true rfl) rfl (kR_ (F := fun st M' => VV X mX2_followedTo rX2_followedTo (pR_ post) 39 [(1, .inl x1), (2, .inl x2), (3, .inr (.inr x3)), (4, .inl x4)] st M' 0 0) (fun r7 M8 h => ?_))
          refine vv_astore_n (mi := mX2_followedTo) (pc := 39) [(3, .inr (.inr r7)), (1, .inl x1), (2, .inl x2), (4, .inl x4)] dX2_followedTo_39 rfl (Nat.le_of_ble_eq_true rfl) rfl ?_
          refine vv_iinc (mi := mX2_followedTo) (pc := 40) (x4 + 1) 3 [(4, .inl (x4 + 1)), (3, .inr (.inr r7)), (1, .inl x1), (2, .inl x2)] dX2_followedTo_40 rfl rfl (Nat.le_of_ble_eq_true rfl) rfl ?_
          refine vv_goto (mi := mX2_followedTo) (pc := 43) 5 dX2_followedTo_43 rfl ?_
          refine vv_sub (mi := mX2_followedTo) [(1, .inl x1), (2, .inl x2), (3, .inr (.inr r7)), (4, .inl (x4 + 1))] [2, 3, 1, 0] rfl ?_
          exact hb5 _ _ _ _ _ h
        · replace h := h.2 c6
          refine vv_aload_n (mi := mX2_followedTo) (pc := 32) 2 dX2_followedTo_32 rfl rfl ?_
          exact vv_aret (mi := mX2_followedTo) (pc := 33) dX2_followedTo_33 rfl (Nat.le_of_ble_eq_true rfl) (Nat.le_of_ble_eq_true rfl) h
theorem loX2_followedTo_5 {X : Cx_}  {post : Option Nat → Mm → Prop}  : ∀ (fu : Nat) {x1 : Int32} {x2 : Int32} {x3 : Option Nat} {x4 : Int32} {M : Mm}, DX2_followedTo_5  post fu x1 x2 x3 x4 M → VV X mX2_followedTo rX2_followedTo (pR_ post) 5 [(1, .inl x1), (2, .inl x2), (3, .inr (.inr x3)), (4, .inl x4)] [] M 0 0
  | 0, _, _, _, _, _, h => False.elim h
  | fu + 1, _, _, _, _, _, h => bX2_followedTo_5 (fun x1 x2 x3 x4 M h => loX2_followedTo_5  fu h) h
set_option maxHeartbeats 4000000 in
set_option maxRecDepth 100000 in
theorem ctX2_followedTo {X : Cx_} {this : Nat} {a1 : Int32} {a2 : Int32} {M : Mm} {post : Option Nat → Mm → Prop} (h : PX2_followedTo this a1 a2 M post) : CT X mX2_followedTo rX2_followedTo [.inr (.inr (some this)), .inl a1, .inl a2] M (pR_ post) := by
  unfold PX2_followedTo at h
  refine CT.of (by decide +kernel) (Nat.le_of_ble_eq_true rfl) ?_
  show VV X mX2_followedTo rX2_followedTo (pR_ post) 0 [(0, .inr (.inr (some this))), (1, .inl a1), (2, .inl a2)] [] M 0 0
  refine vv_aload_n (mi := mX2_followedTo) (pc := 0) 0 dX2_followedTo_0 rfl rfl ?_
  refine vv_astore_n (mi := mX2_followedTo) (pc := 1) [(3, .inr (.inr (some this))), (0, .inr (.inr (some this))), (1, .inl a1), (2, .inl a2)] dX2_followedTo_1 rfl (Nat.le_of_ble_eq_true rfl) rfl ?_
  refine vv_iconst (mi := mX2_followedTo) (pc := 2) 0 dX2_followedTo_2 rfl ?_
  refine vv_istore (mi := mX2_followedTo) (pc := 3) [(4, .inl 0), (3, .inr (.inr (some this))), (0, .inr (.inr (some this))), (1, .inl a1), (2, .inl a2)] dX2_followedTo_3 (Nat.le_of_ble_eq_true rfl) rfl ?_
  refine vv_sub (mi := mX2_followedTo) [(1, .inl a1), (2, .inl a2), (3, .inr (.inr (some this))), (4, .inl 0)] [3, 4, 1, 0] rfl ?_
  obtain ⟨fu, h⟩ := h
  exact loX2_followedTo_5 (X := X)  fu h
set_option maxHeartbeats 4000000 in
set_option maxRecDepth 100000 in
theorem ctJ6_bitCount_0f7a4 {X : Cx_} {a1 : Int32} {M : Mm} {post : Int32 → Mm → Prop} (h : PJ6_bitCount_0f7a4 a1 M post) : CT X mJ6_bitCount_0f7a4 rJ6_bitCount_0f7a4 [.inl a1] M (pI_ post) := by
  unfold PJ6_bitCount_0f7a4 at h
  refine CT.of (by decide +kernel) (Nat.le_of_ble_eq_true rfl) ?_
  show VV X mJ6_bitCount_0f7a4 rJ6_bitCount_0f7a4 (pI_ post) 0 [(0, .inl a1)] [] M 0 0
  refine vv_iload_n (mi := mJ6_bitCount_0f7a4) (pc := 0) 0 dJ6_bitCount_0f7a4_0 rfl rfl ?_
  refine vv_iload_n (mi := mJ6_bitCount_0f7a4) (pc := 1) 0 dJ6_bitCount_0f7a4_1 rfl rfl ?_
  refine vv_iconst (mi := mJ6_bitCount_0f7a4) (pc := 2) 1 dJ6_bitCount_0f7a4_2 rfl ?_
  refine vv_iushr (mi := mJ6_bitCount_0f7a4) (pc := 3) dJ6_bitCount_0f7a4_3 ?_
  refine vv_ldcw (mi := mJ6_bitCount_0f7a4) (pc := 4) 1431655765 dJ6_bitCount_0f7a4_4 ki_J6_265 ?_
  refine vv_iand (mi := mJ6_bitCount_0f7a4) (pc := 7) dJ6_bitCount_0f7a4_7 ?_
  refine vv_isub (mi := mJ6_bitCount_0f7a4) (pc := 8) dJ6_bitCount_0f7a4_8 ?_
  obtain ⟨v1, ev1⟩ : ∃ z : Int32, z = (a1 - ((a1.toUInt32 >>> (Int32.toUInt32 1 &&& Int32.toUInt32 31)).toInt32 &&& 1431655765)) := ⟨_, rfl⟩
  refine vv_namI ev1 ?_
  replace h := h _ ev1
  refine vv_istore_n (mi := mJ6_bitCount_0f7a4) (pc := 9) [(0, .inl v1)] dJ6_bitCount_0f7a4_9 rfl (Nat.le_of_ble_eq_true rfl) rfl ?_
  refine vv_iload_n (mi := mJ6_bitCount_0f7a4) (pc := 10) 0 dJ6_bitCount_0f7a4_10 rfl rfl ?_
  refine vv_ldcw (mi := mJ6_bitCount_0f7a4) (pc := 11) 858993459 dJ6_bitCount_0f7a4_11 ki_J6_266 ?_
  refine vv_iand (mi := mJ6_bitCount_0f7a4) (pc := 14) dJ6_bitCount_0f7a4_14 ?_
  refine vv_iload_n (mi := mJ6_bitCount_0f7a4) (pc := 15) 0 dJ6_bitCount_0f7a4_15 rfl rfl ?_
  refine vv_iconst (mi := mJ6_bitCount_0f7a4) (pc := 16) 2 dJ6_bitCount_0f7a4_16 rfl ?_
  refine vv_iushr (mi := mJ6_bitCount_0f7a4) (pc := 17) dJ6_bitCount_0f7a4_17 ?_
  refine vv_ldcw (mi := mJ6_bitCount_0f7a4) (pc := 18) 858993459 dJ6_bitCount_0f7a4_18 ki_J6_266 ?_
  refine vv_iand (mi := mJ6_bitCount_0f7a4) (pc := 21) dJ6_bitCount_0f7a4_21 ?_
  refine vv_iadd (mi := mJ6_bitCount_0f7a4) (pc := 22) dJ6_bitCount_0f7a4_22 ?_
  obtain ⟨v2, ev2⟩ : ∃ z : Int32, z = ((v1 &&& 858993459) + ((v1.toUInt32 >>> (Int32.toUInt32 2 &&& Int32.toUInt32 31)).toInt32 &&& 858993459)) := ⟨_, rfl⟩
  refine vv_namI ev2 ?_
  replace h := h _ ev2
  refine vv_istore_n (mi := mJ6_bitCount_0f7a4) (pc := 23) [(0, .inl v2)] dJ6_bitCount_0f7a4_23 rfl (Nat.le_of_ble_eq_true rfl) rfl ?_
  refine vv_iload_n (mi := mJ6_bitCount_0f7a4) (pc := 24) 0 dJ6_bitCount_0f7a4_24 rfl rfl ?_
  refine vv_iload_n (mi := mJ6_bitCount_0f7a4) (pc := 25) 0 dJ6_bitCount_0f7a4_25 rfl rfl ?_
  refine vv_iconst (mi := mJ6_bitCount_0f7a4) (pc := 26) 4 dJ6_bitCount_0f7a4_26 rfl ?_
  refine vv_iushr (mi := mJ6_bitCount_0f7a4) (pc := 27) dJ6_bitCount_0f7a4_27 ?_
  refine vv_iadd (mi := mJ6_bitCount_0f7a4) (pc := 28) dJ6_bitCount_0f7a4_28 ?_
  refine vv_ldcw (mi := mJ6_bitCount_0f7a4) (pc := 29) 252645135 dJ6_bitCount_0f7a4_29 ki_J6_267 ?_
  refine vv_iand (mi := mJ6_bitCount_0f7a4) (pc := 32) dJ6_bitCount_0f7a4_32 ?_
  obtain ⟨v3, ev3⟩ : ∃ z : Int32, z = ((v2 + (v2.toUInt32 >>> (Int32.toUInt32 4 &&& Int32.toUInt32 31)).toInt32) &&& 252645135) := ⟨_, rfl⟩
  refine vv_namI ev3 ?_
  replace h := h _ ev3
  refine vv_istore_n (mi := mJ6_bitCount_0f7a4) (pc := 33) [(0, .inl v3)] dJ6_bitCount_0f7a4_33 rfl (Nat.le_of_ble_eq_true rfl) rfl ?_
  refine vv_iload_n (mi := mJ6_bitCount_0f7a4) (pc := 34) 0 dJ6_bitCount_0f7a4_34 rfl rfl ?_
  refine vv_iload_n (mi := mJ6_bitCount_0f7a4) (pc := 35) 0 dJ6_bitCount_0f7a4_35 rfl rfl ?_
  refine vv_bipush (mi := mJ6_bitCount_0f7a4) (pc := 36) 8 dJ6_bitCount_0f7a4_36 rfl ?_
  refine vv_iushr (mi := mJ6_bitCount_0f7a4) (pc := 38) dJ6_bitCount_0f7a4_38 ?_
  refine vv_iadd (mi := mJ6_bitCount_0f7a4) (pc := 39) dJ6_bitCount_0f7a4_39 ?_
  obtain ⟨v4, ev4⟩ : ∃ z : Int32, z = (v3 + (v3.toUInt32 >>> (Int32.toUInt32 8 &&& Int32.toUInt32 31)).toInt32) := ⟨_, rfl⟩
  refine vv_namI ev4 ?_
  replace h := h _ ev4
  refine vv_istore_n (mi := mJ6_bitCount_0f7a4) (pc := 40) [(0, .inl v4)] dJ6_bitCount_0f7a4_40 rfl (Nat.le_of_ble_eq_true rfl) rfl ?_
  refine vv_iload_n (mi := mJ6_bitCount_0f7a4) (pc := 41) 0 dJ6_bitCount_0f7a4_41 rfl rfl ?_
  refine vv_iload_n (mi := mJ6_bitCount_0f7a4) (pc := 42) 0 dJ6_bitCount_0f7a4_42 rfl rfl ?_
  refine vv_bipush (mi := mJ6_bitCount_0f7a4) (pc := 43) 16 dJ6_bitCount_0f7a4_43 rfl ?_
  refine vv_iushr (mi := mJ6_bitCount_0f7a4) (pc := 45) dJ6_bitCount_0f7a4_45 ?_
  refine vv_iadd (mi := mJ6_bitCount_0f7a4) (pc := 46) dJ6_bitCount_0f7a4_46 ?_
  obtain ⟨v5, ev5⟩ : ∃ z : Int32, z = (v4 + (v4.toUInt32 >>> (Int32.toUInt32 16 &&& Int32.toUInt32 31)).toInt32) := ⟨_, rfl⟩
  refine vv_namI ev5 ?_
  replace h := h _ ev5
  refine vv_istore_n (mi := mJ6_bitCount_0f7a4) (pc := 47) [(0, .inl v5)] dJ6_bitCount_0f7a4_47 rfl (Nat.le_of_ble_eq_true rfl) rfl ?_
  refine vv_iload_n (mi := mJ6_bitCount_0f7a4) (pc := 48) 0 dJ6_bitCount_0f7a4_48 rfl rfl ?_
  refine vv_bipush (mi := mJ6_bitCount_0f7a4) (pc := 49) 63 dJ6_bitCount_0f7a4_49 rfl ?_
  refine vv_iand (mi := mJ6_bitCount_0f7a4) (pc := 51) dJ6_bitCount_0f7a4_51 ?_
  exact vv_iret (mi := mJ6_bitCount_0f7a4) (pc := 52) dJ6_bitCount_0f7a4_52 rfl (Nat.le_of_ble_eq_true rfl) (Nat.le_of_ble_eq_true rfl) h
set_option maxHeartbeats 4000000 in
set_option maxRecDepth 100000 in
theorem ctX2_roomOn {X : Cx_} {this : Nat} {a1 : Int32} {M : Mm} {post : Int64 → Mm → Prop} (h : PX2_roomOn this a1 M post) : CT X mX2_roomOn rX2_roomOn [.inr (.inr (some this)), .inl a1] M (pL_ post) := by
  unfold PX2_roomOn at h
  refine CT.of (by decide +kernel) (Nat.le_of_ble_eq_true rfl) ?_
  show VV X mX2_roomOn rX2_roomOn (pL_ post) 0 [(0, .inr (.inr (some this))), (1, .inl a1)] [] M 0 0
  refine vv_aload_n (mi := mX2_roomOn) (pc := 0) 0 dX2_roomOn_0 rfl rfl ?_
  refine vv_iload_n (mi := mX2_roomOn) (pc := 1) 1 dX2_roomOn_1 rfl rfl ?_
  obtain ⟨ht1, h⟩ := h
  refine vv_callV (mi := mX2_roomOn) (pc := 2) (rest := []) (As := [.inl a1]) (ctX2_isInForce (X := X) h) dX2_roomOn_2 rfl ht1 (Nat.le_of_ble_eq_true rfl) rfl mb_X2_isInForce rfl ml_X2_104 im_X2_isInForce se_X2_isInForce ⟨(Nat.le_of_ble_eq_true rfl), (Nat.le_of_ble_eq_true rfl)⟩ ⟨(Nat.le_of_ble_eq_true rfl), (Nat.le_of_ble_eq_true rfl)⟩ (Nat.le_of_ble_eq_true rfl) rfl (kI_ (F := fun st M' => VV X mX2_roomOn rX2_roomOn (pL_ post) 5 [(0, .inr (.inr (some this))), (1, .inl a1)] st M' 0 0) (fun r2 M3 h => ?_))
  refine vv_if_eq (mi := mX2_roomOn) (pc := 5) 29 dX2_roomOn_5 rfl (fun c4 => ?_) (fun c4 => ?_)
  · replace h := h.1 c4
    refine vv_lconst (mi := mX2_roomOn) (pc := 29) 0 dX2_roomOn_29 rfl ?_
    exact vv_lret (mi := mX2_roomOn) (pc := 30) dX2_roomOn_30 rfl (Nat.le_of_ble_eq_true rfl) (Nat.le_of_ble_eq_true rfl) h
  · replace h := h.2 c4
    refine vv_aload_n (mi := mX2_roomOn) (pc := 8) 0 dX2_roomOn_8 rfl rfl ?_
    obtain ⟨ht5, h⟩ := h
    refine vv_getI (mi := mX2_roomOn) (pc := 9) 2 4 rfl ht5 fl_X2_28 (Nat.le_of_ble_eq_true rfl) dX2_roomOn_9 ?_
    refine vv_callS (mi := mX2_roomOn) (pc := 12) (rest := []) (As := [.inl (ddI M3 this 4)]) (ctJ6_bitCount_0f7a4 (X := X) h) dX2_roomOn_12 mb_J6_bitCount_0f7a4 rfl ml_X2_108 sc_J6_bitCount_0f7a4 ⟨(Nat.le_of_ble_eq_true rfl), (Nat.le_of_ble_eq_true rfl)⟩ ⟨(Nat.le_of_ble_eq_true rfl), (Nat.le_of_ble_eq_true rfl)⟩ (Nat.le_of_ble_eq_true rfl) rfl (kI_ (F := fun st M' => VV X mX2_roomOn rX2_roomOn (pL_ post) 15 [(0, .inr (.inr (some this))), (1, .inl a1)] st M' 0 0) (fun r6 M7 h => ?_))
    refine vv_i2l (mi := mX2_roomOn) (pc := 15) dX2_roomOn_15 ?_
    refine vv_aload_n (mi := mX2_roomOn) (pc := 16) 0 dX2_roomOn_16 rfl rfl ?_
    obtain ⟨ht8, h⟩ := h
    refine vv_callV (mi := mX2_roomOn) (pc := 17) (rest := [.inr (.inl (Int32.toInt64 r6))]) (As := []) (ctX2_placesBehind (X := X) h) dX2_roomOn_17 rfl ht8 (Nat.le_of_ble_eq_true rfl) rfl mb_X2_placesBehind rfl ml_X2_78 im_X2_placesBehind se_X2_placesBehind ⟨(Nat.le_of_ble_eq_true rfl), (Nat.le_of_ble_eq_true rfl)⟩ ⟨(Nat.le_of_ble_eq_true rfl), (Nat.le_of_ble_eq_true rfl)⟩ (Nat.le_of_ble_eq_true rfl) rfl (kI_ (F := fun st M' => VV X mX2_roomOn rX2_roomOn (pL_ post) 20 [(0, .inr (.inr (some this))), (1, .inl a1)] st M' 0 0) (fun r9 M10 h => ?_))
    refine vv_iconst (mi := mX2_roomOn) (pc := 20) 1 dX2_roomOn_20 rfl ?_
    refine vv_isub (mi := mX2_roomOn) (pc := 21) dX2_roomOn_21 ?_
    refine vv_callSN (mi := mX2_roomOn) (pc := 22) (rest := [.inr (.inl (Int32.toInt64 r6))]) (As := [.inl (r9 - 1)]) (ctX10_tens (X := X) h) dX2_roomOn_22 mb_X10_tens rfl mn_X2_82 sc_X10_tens ⟨(Nat.le_of_ble_eq_true rfl), (Nat.le_of_ble_eq_true rfl)⟩ ⟨(Nat.le_of_ble_eq_true rfl), (Nat.le_of_ble_eq_true rfl)⟩ (Nat.le_of_ble_eq_true rfl) rfl (kL_ (F := fun st M' => VV X mX2_roomOn rX2_roomOn (pL_ post) 25 [(0, .inr (.inr (some this))), (1, .inl a1)] st M' 0 0) (fun r11 M12 h => ?_))
    refine vv_lmul (mi := mX2_roomOn) (pc := 25) dX2_roomOn_25 ?_
    refine vv_goto (mi := mX2_roomOn) (pc := 26) 30 dX2_roomOn_26 rfl ?_
    exact vv_lret (mi := mX2_roomOn) (pc := 30) dX2_roomOn_30 rfl (Nat.le_of_ble_eq_true rfl) (Nat.le_of_ble_eq_true rfl) h
set_option maxHeartbeats 4000000 in
set_option maxRecDepth 100000 in
theorem ctX3_init {X : Cx_} {this : Nat} {a1 : Option Nat} {a2 : Int32} {a3 : Int32} {M : Mm} {post : Mm → Prop} (h : PX3_init this a1 a2 a3 M post) : CT X mX3_init rX3_init [.inr (.inr (some this)), .inr (.inr a1), .inl a2, .inl a3] M (pV_ post) := by
  unfold PX3_init at h
  refine CT.of (by decide +kernel) (Nat.le_of_ble_eq_true rfl) ?_
  show VV X mX3_init rX3_init (pV_ post) 0 [(0, .inr (.inr (some this))), (1, .inr (.inr a1)), (2, .inl a2), (3, .inl a3)] [] M 0 0
  refine vv_aload_n (mi := mX3_init) (pc := 0) 0 dX3_init_0 rfl rfl ?_
  refine vv_objInit (mi := mX3_init) (pc := 1) dX3_init_1 oi_X3_3 im_obj co_obj (Nat.le_of_ble_eq_true rfl) (Nat.le_of_ble_eq_true rfl) (Nat.le_of_ble_eq_true rfl) ?_
  refine vv_aload_n (mi := mX3_init) (pc := 4) 0 dX3_init_4 rfl rfl ?_
  refine vv_aload_n (mi := mX3_init) (pc := 5) 1 dX3_init_5 rfl rfl ?_
  obtain ⟨ht1, h⟩ := h
  obtain ⟨M2, eM2⟩ : ∃ z : Mm, z = suR M this 0 a1 := ⟨_, rfl⟩
  replace h := h _ eM2
  refine vv_putR (mi := mX3_init) (pc := 6) 3 0 (.object "DialDesk$Entry") rfl rfl ht1 fq_X3_9 (fun _ => rfl) rfl (Nat.le_of_ble_eq_true rfl) dX3_init_6 eM2 ?_
  refine vv_aload_n (mi := mX3_init) (pc := 9) 0 dX3_init_9 rfl rfl ?_
  refine vv_iload_n (mi := mX3_init) (pc := 10) 2 dX3_init_10 rfl rfl ?_
  obtain ⟨M3, eM3⟩ : ∃ z : Mm, z = suI M2 this 1 a2 := ⟨_, rfl⟩
  replace h := h _ eM3
  refine vv_putI (mi := mX3_init) (pc := 11) 3 1 rfl (tgR_ eM2 ht1) fq_X3_15 (fun _ => rfl) rfl (Nat.le_of_ble_eq_true rfl) dX3_init_11 eM3 ?_
  refine vv_aload_n (mi := mX3_init) (pc := 14) 0 dX3_init_14 rfl rfl ?_
  refine vv_iload_n (mi := mX3_init) (pc := 15) 2 dX3_init_15 rfl rfl ?_
  refine vv_i2l (mi := mX3_init) (pc := 16) dX3_init_16 ?_
  refine vv_iload_n (mi := mX3_init) (pc := 17) 2 dX3_init_17 rfl rfl ?_
  refine vv_i2l (mi := mX3_init) (pc := 18) dX3_init_18 ?_
  refine vv_callSN (mi := mX3_init) (pc := 19) (rest := [.inr (.inl (Int32.toInt64 a2)), .inr (.inr (some this))]) (As := [.inr (.inl (Int32.toInt64 a2))]) (ctX10_placesOf (X := X) h) dX3_init_19 mb_X10_placesOf rfl mn_X3_19 sc_X10_placesOf ⟨(Nat.le_of_ble_eq_true rfl), (Nat.le_of_ble_eq_true rfl)⟩ ⟨(Nat.le_of_ble_eq_true rfl), (Nat.le_of_ble_eq_true rfl)⟩ (Nat.le_of_ble_eq_true rfl) rfl (kI_ (F := fun st M' => VV X mX3_init rX3_init (pV_ post) 22 [(0, .inr (.inr (some this))), (1, .inr (.inr a1)), (2, .inl a2), (3, .inl a3)] st M' 0 0) (fun r4 M5 h => ?_))
  refine vv_iconst (mi := mX3_init) (pc := 22) 0 dX3_init_22 rfl ?_
  refine vv_callSN (mi := mX3_init) (pc := 23) (rest := [.inr (.inr (some this))]) (As := [.inr (.inl (Int32.toInt64 a2)), .inl r4, .inl 0]) (ctX10_figureBit (X := X) h) dX3_init_23 mb_X10_figureBit rfl mn_X3_23 sc_X10_figureBit ⟨(Nat.le_of_ble_eq_true rfl), (Nat.le_of_ble_eq_true rfl)⟩ ⟨(Nat.le_of_ble_eq_true rfl), (Nat.le_of_ble_eq_true rfl)⟩ (Nat.le_of_ble_eq_true rfl) rfl (kI_ (F := fun st M' => VV X mX3_init rX3_init (pV_ post) 26 [(0, .inr (.inr (some this))), (1, .inr (.inr a1)), (2, .inl a2), (3, .inl a3)] st M' 0 0) (fun r6 M7 h => ?_))
  obtain ⟨ht8, h⟩ := h
  obtain ⟨M9, eM9⟩ : ∃ z : Mm, z = suI M7 this 2 r6 := ⟨_, rfl⟩
  replace h := h _ eM9
  refine vv_putI (mi := mX3_init) (pc := 26) 3 2 rfl ht8 fq_X3_27 (fun _ => rfl) rfl (Nat.le_of_ble_eq_true rfl) dX3_init_26 eM9 ?_
  refine vv_aload_n (mi := mX3_init) (pc := 29) 0 dX3_init_29 rfl rfl ?_
  refine vv_iload_n (mi := mX3_init) (pc := 30) 3 dX3_init_30 rfl rfl ?_
  obtain ⟨M10, eM10⟩ : ∃ z : Mm, z = suI M9 this 3 a3 := ⟨_, rfl⟩
  replace h := h _ eM10
  refine vv_putI (mi := mX3_init) (pc := 31) 3 3 rfl (tgI_ eM9 ht8) fq_X3_30 (fun _ => rfl) rfl (Nat.le_of_ble_eq_true rfl) dX3_init_31 eM10 ?_
  refine vv_aload_n (mi := mX3_init) (pc := 34) 0 dX3_init_34 rfl rfl ?_
  refine vv_iconst (mi := mX3_init) (pc := 35) (-1) dX3_init_35 rfl ?_
  obtain ⟨M11, eM11⟩ : ∃ z : Mm, z = suI M10 this 4 (-1) := ⟨_, rfl⟩
  replace h := h _ eM11
  refine vv_putI (mi := mX3_init) (pc := 36) 3 4 rfl (tgI_ eM10 (tgI_ eM9 ht8)) fq_X3_33 (fun q => by cases q) rfl (Nat.le_of_ble_eq_true rfl) dX3_init_36 eM11 ?_
  exact vv_vret (mi := mX3_init) (pc := 39) dX3_init_39 rfl (Nat.le_of_ble_eq_true rfl) (Nat.le_of_ble_eq_true rfl) h
set_option maxHeartbeats 4000000 in
set_option maxRecDepth 100000 in
theorem ctX3_blockOn {X : Cx_} {this : Nat} {a1 : Int32} {M : Mm} {post : Option Nat → Mm → Prop} (h : PX3_blockOn this a1 M post) : CT X mX3_blockOn rX3_blockOn [.inr (.inr (some this)), .inl a1] M (pR_ post) := by
  unfold PX3_blockOn at h
  refine CT.of (by decide +kernel) (Nat.le_of_ble_eq_true rfl) ?_
  show VV X mX3_blockOn rX3_blockOn (pR_ post) 0 [(0, .inr (.inr (some this))), (1, .inl a1)] [] M 0 0
  refine vv_aload_n (mi := mX3_blockOn) (pc := 0) 0 dX3_blockOn_0 rfl rfl ?_
  obtain ⟨ht1, h⟩ := h
  refine vv_getR (mi := mX3_blockOn) (pc := 1) 3 0 rfl ht1 fl_X3_9 (Nat.le_of_ble_eq_true rfl) dX3_blockOn_1 ?_
  refine vv_ifnull (mi := mX3_blockOn) (pc := 4) 31 dX3_blockOn_4 rfl (fun c2 => ?_) (fun aq3 c2 => ?_)
  · replace h := h.1 c2
    refine vv_null (mi := mX3_blockOn) (pc := 31) dX3_blockOn_31 ?_
    exact vv_aret (mi := mX3_blockOn) (pc := 32) dX3_blockOn_32 rfl (Nat.le_of_ble_eq_true rfl) (Nat.le_of_ble_eq_true rfl) h
  · replace h := h.2 aq3 c2
    refine vv_iload_n (mi := mX3_blockOn) (pc := 7) 1 dX3_blockOn_7 rfl rfl ?_
    refine vv_aload_n (mi := mX3_blockOn) (pc := 8) 0 dX3_blockOn_8 rfl rfl ?_
    refine vv_getI (mi := mX3_blockOn) (pc := 9) 3 3 rfl ht1 fl_X3_30 (Nat.le_of_ble_eq_true rfl) dX3_blockOn_9 ?_
    refine vv_icmp_lt (mi := mX3_blockOn) (pc := 12) 31 dX3_blockOn_12 rfl (fun c4 => ?_) (fun c4 => ?_)
    · replace h := h.1 c4
      refine vv_null (mi := mX3_blockOn) (pc := 31) dX3_blockOn_31 ?_
      exact vv_aret (mi := mX3_blockOn) (pc := 32) dX3_blockOn_32 rfl (Nat.le_of_ble_eq_true rfl) (Nat.le_of_ble_eq_true rfl) h
    · replace h := h.2 c4
      refine vv_aload_n (mi := mX3_blockOn) (pc := 15) 0 dX3_blockOn_15 rfl rfl ?_
      refine vv_getI (mi := mX3_blockOn) (pc := 16) 3 4 rfl ht1 fl_X3_33 (Nat.le_of_ble_eq_true rfl) dX3_blockOn_16 ?_
      refine vv_iconst (mi := mX3_blockOn) (pc := 19) (-1) dX3_blockOn_19 rfl ?_
      refine vv_icmp_eq (mi := mX3_blockOn) (pc := 20) 33 dX3_blockOn_20 rfl (fun c5 => ?_) (fun c5 => ?_)
      · replace h := h.1 c5
        refine vv_aload_n (mi := mX3_blockOn) (pc := 33) 0 dX3_blockOn_33 rfl rfl ?_
        refine vv_getR (mi := mX3_blockOn) (pc := 34) 3 0 rfl ht1 fl_X3_9 (Nat.le_of_ble_eq_true rfl) dX3_blockOn_34 ?_
        refine vv_aload_n (mi := mX3_blockOn) (pc := 37) 0 dX3_blockOn_37 rfl rfl ?_
        refine vv_getI (mi := mX3_blockOn) (pc := 38) 3 2 rfl ht1 fl_X3_27 (Nat.le_of_ble_eq_true rfl) dX3_blockOn_38 ?_
        refine vv_iload_n (mi := mX3_blockOn) (pc := 41) 1 dX3_blockOn_41 rfl rfl ?_
        obtain ⟨ht6, h⟩ := h
        refine vv_callV (mi := mX3_blockOn) (pc := 42) (rest := []) (As := [.inl (ddI M this 2), .inl a1]) (ctX2_followedTo (X := X) h) dX3_blockOn_42 c2 ht6 (Nat.le_of_ble_eq_true rfl) rfl mb_X2_followedTo rfl ml_X3_36 im_X2_followedTo se_X2_followedTo ⟨(Nat.le_of_ble_eq_true rfl), (Nat.le_of_ble_eq_true rfl)⟩ ⟨(Nat.le_of_ble_eq_true rfl), (Nat.le_of_ble_eq_true rfl)⟩ (Nat.le_of_ble_eq_true rfl) rfl (kR_ (F := fun st M' => VV X mX3_blockOn rX3_blockOn (pR_ post) 45 [(0, .inr (.inr (some this))), (1, .inl a1)] st M' 0 0) (fun r7 M8 h => ?_))
        exact vv_aret (mi := mX3_blockOn) (pc := 45) dX3_blockOn_45 rfl (Nat.le_of_ble_eq_true rfl) (Nat.le_of_ble_eq_true rfl) h
      · replace h := h.2 c5
        refine vv_iload_n (mi := mX3_blockOn) (pc := 23) 1 dX3_blockOn_23 rfl rfl ?_
        refine vv_aload_n (mi := mX3_blockOn) (pc := 24) 0 dX3_blockOn_24 rfl rfl ?_
        refine vv_getI (mi := mX3_blockOn) (pc := 25) 3 4 rfl ht1 fl_X3_33 (Nat.le_of_ble_eq_true rfl) dX3_blockOn_25 ?_
        refine vv_icmp_lt (mi := mX3_blockOn) (pc := 28) 33 dX3_blockOn_28 rfl (fun c9 => ?_) (fun c9 => ?_)
        · replace h := h.1 c9
          refine vv_aload_n (mi := mX3_blockOn) (pc := 33) 0 dX3_blockOn_33 rfl rfl ?_
          refine vv_getR (mi := mX3_blockOn) (pc := 34) 3 0 rfl ht1 fl_X3_9 (Nat.le_of_ble_eq_true rfl) dX3_blockOn_34 ?_
          refine vv_aload_n (mi := mX3_blockOn) (pc := 37) 0 dX3_blockOn_37 rfl rfl ?_
          refine vv_getI (mi := mX3_blockOn) (pc := 38) 3 2 rfl ht1 fl_X3_27 (Nat.le_of_ble_eq_true rfl) dX3_blockOn_38 ?_
          refine vv_iload_n (mi := mX3_blockOn) (pc := 41) 1 dX3_blockOn_41 rfl rfl ?_
          obtain ⟨ht10, h⟩ := h
          refine vv_callV (mi := mX3_blockOn) (pc := 42) (rest := []) (As := [.inl (ddI M this 2), .inl a1]) (ctX2_followedTo (X := X) h) dX3_blockOn_42 c2 ht10 (Nat.le_of_ble_eq_true rfl) rfl mb_X2_followedTo rfl ml_X3_36 im_X2_followedTo se_X2_followedTo ⟨(Nat.le_of_ble_eq_true rfl), (Nat.le_of_ble_eq_true rfl)⟩ ⟨(Nat.le_of_ble_eq_true rfl), (Nat.le_of_ble_eq_true rfl)⟩ (Nat.le_of_ble_eq_true rfl) rfl (kR_ (F := fun st M' => VV X mX3_blockOn rX3_blockOn (pR_ post) 45 [(0, .inr (.inr (some this))), (1, .inl a1)] st M' 0 0) (fun r11 M12 h => ?_))
          exact vv_aret (mi := mX3_blockOn) (pc := 45) dX3_blockOn_45 rfl (Nat.le_of_ble_eq_true rfl) (Nat.le_of_ble_eq_true rfl) h
        · replace h := h.2 c9
          refine vv_null (mi := mX3_blockOn) (pc := 31) dX3_blockOn_31 ?_
          exact vv_aret (mi := mX3_blockOn) (pc := 32) dX3_blockOn_32 rfl (Nat.le_of_ble_eq_true rfl) (Nat.le_of_ble_eq_true rfl) h
set_option maxHeartbeats 4000000 in
set_option maxRecDepth 100000 in
theorem bX3_carrierOn_7 {X : Cx_} {kb7 : Int32 → (Option Nat) → Int32 → Mm → Prop} {post : Int32 → Mm → Prop} (hb7 : ∀ (x1 : Int32) (x2 : Option Nat) (x3 : Int32) (M : Mm), kb7 x1 x2 x3 M → VV X mX3_carrierOn rX3_carrierOn (pI_ post) 7 [(1, .inl x1), (2, .inr (.inr x2)), (3, .inl x3)] [] M 0 0) {x1 : Int32} {x2 : Option Nat} {x3 : Int32} {M : Mm} (h : BX3_carrierOn_7 kb7 post x1 x2 x3 M) : VV X mX3_carrierOn rX3_carrierOn (pI_ post) 7 [(1, .inl x1), (2, .inr (.inr x2)), (3, .inl x3)] [] M 0 0 := by
  unfold BX3_carrierOn_7 at h
  refine vv_iload_n (mi := mX3_carrierOn) (pc := 7) 2 dX3_carrierOn_7 rfl rfl ?_
  refine vv_sipush (mi := mX3_carrierOn) (pc := 8) 500 dX3_carrierOn_8 rfl ?_
  refine vv_icmp_ge (mi := mX3_carrierOn) (pc := 11) 42 dX3_carrierOn_11 rfl (fun c2 => ?_) (fun c2 => ?_)
  · replace h := h.1 c2
    refine vv_iconst (mi := mX3_carrierOn) (pc := 42) (-1) dX3_carrierOn_42 rfl ?_
    exact vv_iret (mi := mX3_carrierOn) (pc := 43) dX3_carrierOn_43 rfl (Nat.le_of_ble_eq_true rfl) (Nat.le_of_ble_eq_true rfl) h
  · replace h := h.2 c2
    refine vv_aload_n (mi := mX3_carrierOn) (pc := 14) 1 dX3_carrierOn_14 rfl rfl ?_
    refine vv_ifnull (mi := mX3_carrierOn) (pc := 15) 42 dX3_carrierOn_15 rfl (fun c3 => ?_) (fun aq4 c3 => ?_)
    · replace h := h.1 c3
      refine vv_iconst (mi := mX3_carrierOn) (pc := 42) (-1) dX3_carrierOn_42 rfl ?_
      exact vv_iret (mi := mX3_carrierOn) (pc := 43) dX3_carrierOn_43 rfl (Nat.le_of_ble_eq_true rfl) (Nat.le_of_ble_eq_true rfl) h
    · replace h := h.2 aq4 c3
      refine vv_aload_n (mi := mX3_carrierOn) (pc := 18) 1 dX3_carrierOn_18 rfl rfl ?_
      obtain ⟨ht5, h⟩ := h
      refine vv_getI (mi := mX3_carrierOn) (pc := 19) 7 1 c3 ht5 fl_X3_46 (Nat.le_of_ble_eq_true rfl) dX3_carrierOn_19 ?_
      refine vv_iload_n (mi := mX3_carrierOn) (pc := 22) 0 dX3_carrierOn_22 rfl rfl ?_
      refine vv_icmp_gt (mi := mX3_carrierOn) (pc := 23) 31 dX3_carrierOn_23 rfl (fun c6 => ?_) (fun c6 => ?_)
      · replace h := h.1 c6
        refine vv_aload_n (mi := mX3_carrierOn) (pc := 31) 1 dX3_carrierOn_31 rfl rfl ?_
        refine vv_getR (mi := mX3_carrierOn) (pc := 32) 7 2 c3 ht5 fl_X3_54 (Nat.le_of_ble_eq_true rfl) dX3_carrierOn_32 ?_
        refine vv_astore_n (mi := mX3_carrierOn) (pc := 35) [(2, .inr (.inr (ddR M aq4 2))), (1, .inl x1), (3, .inl x3)] dX3_carrierOn_35 rfl (Nat.le_of_ble_eq_true rfl) rfl ?_
        refine vv_iinc (mi := mX3_carrierOn) (pc := 36) (x3 + 1) 2 [(3, .inl (x3 + 1)), (2, .inr (.inr (ddR M aq4 2))), (1, .inl x1)] dX3_carrierOn_36 rfl rfl (Nat.le_of_ble_eq_true rfl) rfl ?_
        refine vv_goto (mi := mX3_carrierOn) (pc := 39) 7 dX3_carrierOn_39 rfl ?_
        refine vv_sub (mi := mX3_carrierOn) [(1, .inl x1), (2, .inr (.inr (ddR M aq4 2))), (3, .inl (x3 + 1))] [2, 1, 0] rfl ?_
        exact hb7 _ _ _ _ h
      · replace h := h.2 c6
        refine vv_aload_n (mi := mX3_carrierOn) (pc := 26) 1 dX3_carrierOn_26 rfl rfl ?_
        refine vv_getI (mi := mX3_carrierOn) (pc := 27) 7 0 c3 ht5 fl_X3_51 (Nat.le_of_ble_eq_true rfl) dX3_carrierOn_27 ?_
        exact vv_iret (mi := mX3_carrierOn) (pc := 30) dX3_carrierOn_30 rfl (Nat.le_of_ble_eq_true rfl) (Nat.le_of_ble_eq_true rfl) h
theorem loX3_carrierOn_7 {X : Cx_}  {post : Int32 → Mm → Prop}  : ∀ (fu : Nat) {x1 : Int32} {x2 : Option Nat} {x3 : Int32} {M : Mm}, DX3_carrierOn_7  post fu x1 x2 x3 M → VV X mX3_carrierOn rX3_carrierOn (pI_ post) 7 [(1, .inl x1), (2, .inr (.inr x2)), (3, .inl x3)] [] M 0 0
  | 0, _, _, _, _, h => False.elim h
  | fu + 1, _, _, _, _, h => bX3_carrierOn_7 (fun x1 x2 x3 M h => loX3_carrierOn_7  fu h) h
set_option maxHeartbeats 4000000 in
set_option maxRecDepth 100000 in
theorem ctX3_carrierOn {X : Cx_} {this : Nat} {a1 : Int32} {M : Mm} {post : Int32 → Mm → Prop} (h : PX3_carrierOn this a1 M post) : CT X mX3_carrierOn rX3_carrierOn [.inr (.inr (some this)), .inl a1] M (pI_ post) := by
  unfold PX3_carrierOn at h
  refine CT.of (by decide +kernel) (Nat.le_of_ble_eq_true rfl) ?_
  show VV X mX3_carrierOn rX3_carrierOn (pI_ post) 0 [(0, .inr (.inr (some this))), (1, .inl a1)] [] M 0 0
  refine vv_aload_n (mi := mX3_carrierOn) (pc := 0) 0 dX3_carrierOn_0 rfl rfl ?_
  obtain ⟨ht1, h⟩ := h
  refine vv_getR (mi := mX3_carrierOn) (pc := 1) 3 5 rfl ht1 fl_X3_42 (Nat.le_of_ble_eq_true rfl) dX3_carrierOn_1 ?_
  refine vv_astore_n (mi := mX3_carrierOn) (pc := 4) [(2, .inr (.inr (ddR M this 5))), (0, .inr (.inr (some this))), (1, .inl a1)] dX3_carrierOn_4 rfl (Nat.le_of_ble_eq_true rfl) rfl ?_
  refine vv_iconst (mi := mX3_carrierOn) (pc := 5) 0 dX3_carrierOn_5 rfl ?_
  refine vv_istore_n (mi := mX3_carrierOn) (pc := 6) [(3, .inl 0), (2, .inr (.inr (ddR M this 5))), (0, .inr (.inr (some this))), (1, .inl a1)] dX3_carrierOn_6 rfl (Nat.le_of_ble_eq_true rfl) rfl ?_
  refine vv_sub (mi := mX3_carrierOn) [(1, .inl a1), (2, .inr (.inr (ddR M this 5))), (3, .inl 0)] [3, 1, 0] rfl ?_
  obtain ⟨fu, h⟩ := h
  exact loX3_carrierOn_7 (X := X)  fu h
set_option maxHeartbeats 4000000 in
set_option maxRecDepth 100000 in
theorem ctX4_init {X : Cx_} {this : Nat} {M : Mm} {post : Mm → Prop} (h : PX4_init this M post) : CT X mX4_init rX4_init [.inr (.inr (some this))] M (pV_ post) := by
  unfold PX4_init at h
  refine CT.of (by decide +kernel) (Nat.le_of_ble_eq_true rfl) ?_
  show VV X mX4_init rX4_init (pV_ post) 0 [(0, .inr (.inr (some this)))] [] M 0 0
  refine vv_aload_n (mi := mX4_init) (pc := 0) 0 dX4_init_0 rfl rfl ?_
  refine vv_objInit (mi := mX4_init) (pc := 1) dX4_init_1 oi_X4_3 im_obj co_obj (Nat.le_of_ble_eq_true rfl) (Nat.le_of_ble_eq_true rfl) (Nat.le_of_ble_eq_true rfl) ?_
  refine vv_aload_n (mi := mX4_init) (pc := 4) 0 dX4_init_4 rfl rfl ?_
  refine vv_sipush (mi := mX4_init) (pc := 5) 300 dX4_init_5 rfl ?_
  obtain ⟨n1, en1⟩ : ∃ z : Nat, z = ddZ M := ⟨_, rfl⟩
  replace h := h _ en1
  obtain ⟨M2, eM2⟩ : ∃ z : Mm, z = suN M 26 300 := ⟨_, rfl⟩
  replace h := h _ eM2
  refine vv_anew (mi := mX4_init) (pc := 8) 26 300 "DialDesk$Line" (Nat.le_of_ble_eq_true rfl) rfl cl_X4_9 ao_26 (by decide +kernel) rfl (Nat.le_of_ble_eq_true rfl) (Nat.le_of_ble_eq_true rfl) (Nat.le_of_ble_eq_true rfl) dX4_init_8 en1 eM2 ?_
  obtain ⟨ht3, h⟩ := h
  obtain ⟨M4, eM4⟩ : ∃ z : Mm, z = suR M2 this 0 (some n1) := ⟨_, rfl⟩
  replace h := h _ eM4
  refine vv_putR (mi := mX4_init) (pc := 11) 4 0 (.array (.object "DialDesk$Line")) rfl rfl ht3 fq_X4_11 (fun _ => rfl) rfl (Nat.le_of_ble_eq_true rfl) dX4_init_11 eM4 ?_
  refine vv_aload_n (mi := mX4_init) (pc := 14) 0 dX4_init_14 rfl rfl ?_
  refine vv_iconst (mi := mX4_init) (pc := 15) 0 dX4_init_15 rfl ?_
  obtain ⟨M5, eM5⟩ : ∃ z : Mm, z = suI M4 this 1 0 := ⟨_, rfl⟩
  replace h := h _ eM5
  refine vv_putI (mi := mX4_init) (pc := 16) 4 1 rfl (tgR_ eM4 ht3) fq_X4_17 (fun q => by cases q) rfl (Nat.le_of_ble_eq_true rfl) dX4_init_16 eM5 ?_
  refine vv_aload_n (mi := mX4_init) (pc := 19) 0 dX4_init_19 rfl rfl ?_
  refine vv_iconst (mi := mX4_init) (pc := 20) 0 dX4_init_20 rfl ?_
  obtain ⟨M6, eM6⟩ : ∃ z : Mm, z = suI M5 this 2 0 := ⟨_, rfl⟩
  replace h := h _ eM6
  refine vv_putI (mi := mX4_init) (pc := 21) 4 2 rfl (tgI_ eM5 (tgR_ eM4 ht3)) fq_X4_21 (fun q => by cases q) rfl (Nat.le_of_ble_eq_true rfl) dX4_init_21 eM6 ?_
  exact vv_vret (mi := mX4_init) (pc := 24) dX4_init_24 rfl (Nat.le_of_ble_eq_true rfl) (Nat.le_of_ble_eq_true rfl) h
set_option maxHeartbeats 4000000 in
set_option maxRecDepth 100000 in
theorem ctX4_lineWith {X : Cx_} {this : Nat} {a1 : Int32} {M : Mm} {post : Option Nat → Mm → Prop} (h : PX4_lineWith this a1 M post) : CT X mX4_lineWith rX4_lineWith [.inr (.inr (some this)), .inl a1] M (pR_ post) := by
  unfold PX4_lineWith at h
  refine CT.of (by decide +kernel) (Nat.le_of_ble_eq_true rfl) ?_
  show VV X mX4_lineWith rX4_lineWith (pR_ post) 0 [(0, .inr (.inr (some this))), (1, .inl a1)] [] M 0 0
  refine vv_iload_n (mi := mX4_lineWith) (pc := 0) 1 dX4_lineWith_0 rfl rfl ?_
  refine vv_if_lt (mi := mX4_lineWith) (pc := 1) 30 dX4_lineWith_1 rfl (fun c1 => ?_) (fun c1 => ?_)
  · replace h := h.1 c1
    refine vv_null (mi := mX4_lineWith) (pc := 30) dX4_lineWith_30 ?_
    exact vv_aret (mi := mX4_lineWith) (pc := 31) dX4_lineWith_31 rfl (Nat.le_of_ble_eq_true rfl) (Nat.le_of_ble_eq_true rfl) h
  · replace h := h.2 c1
    refine vv_iload_n (mi := mX4_lineWith) (pc := 4) 1 dX4_lineWith_4 rfl rfl ?_
    refine vv_aload_n (mi := mX4_lineWith) (pc := 5) 0 dX4_lineWith_5 rfl rfl ?_
    obtain ⟨ht2, h⟩ := h
    refine vv_getI (mi := mX4_lineWith) (pc := 6) 4 1 rfl ht2 fl_X4_17 (Nat.le_of_ble_eq_true rfl) dX4_lineWith_6 ?_
    refine vv_icmp_ge (mi := mX4_lineWith) (pc := 9) 30 dX4_lineWith_9 rfl (fun c3 => ?_) (fun c3 => ?_)
    · replace h := h.1 c3
      refine vv_null (mi := mX4_lineWith) (pc := 30) dX4_lineWith_30 ?_
      exact vv_aret (mi := mX4_lineWith) (pc := 31) dX4_lineWith_31 rfl (Nat.le_of_ble_eq_true rfl) (Nat.le_of_ble_eq_true rfl) h
    · replace h := h.2 c3
      refine vv_iload_n (mi := mX4_lineWith) (pc := 12) 1 dX4_lineWith_12 rfl rfl ?_
      refine vv_aload_n (mi := mX4_lineWith) (pc := 13) 0 dX4_lineWith_13 rfl rfl ?_
      refine vv_getR (mi := mX4_lineWith) (pc := 14) 4 0 rfl ht2 fl_X4_11 (Nat.le_of_ble_eq_true rfl) dX4_lineWith_14 ?_
      obtain ⟨aq4, hs5, h⟩ := h
      obtain ⟨ht6, h⟩ := h
      refine vv_alen (mi := mX4_lineWith) (pc := 17) (t := 26) (Nat.le_of_ble_eq_true rfl) (Nat.le_of_ble_eq_true rfl) rfl hs5 ht6 dX4_lineWith_17 ?_
      refine vv_icmp_ge (mi := mX4_lineWith) (pc := 18) 30 dX4_lineWith_18 rfl (fun c7 => ?_) (fun c7 => ?_)
      · replace h := h.1 c7
        refine vv_null (mi := mX4_lineWith) (pc := 30) dX4_lineWith_30 ?_
        exact vv_aret (mi := mX4_lineWith) (pc := 31) dX4_lineWith_31 rfl (Nat.le_of_ble_eq_true rfl) (Nat.le_of_ble_eq_true rfl) h
      · replace h := h.2 c7
        refine vv_aload_n (mi := mX4_lineWith) (pc := 21) 0 dX4_lineWith_21 rfl rfl ?_
        refine vv_getR (mi := mX4_lineWith) (pc := 22) 4 0 rfl ht2 fl_X4_11 (Nat.le_of_ble_eq_true rfl) dX4_lineWith_22 ?_
        refine vv_iload_n (mi := mX4_lineWith) (pc := 25) 1 dX4_lineWith_25 rfl rfl ?_
        obtain ⟨hi8, h⟩ := h
        refine vv_aald (mi := mX4_lineWith) (pc := 26) (t := 26) (Nat.le_of_ble_eq_true rfl) rfl hs5 ht6 hi8 dX4_lineWith_26 ?_
        refine vv_goto (mi := mX4_lineWith) (pc := 27) 31 dX4_lineWith_27 rfl ?_
        exact vv_aret (mi := mX4_lineWith) (pc := 31) dX4_lineWith_31 rfl (Nat.le_of_ble_eq_true rfl) (Nat.le_of_ble_eq_true rfl) h
set_option maxHeartbeats 4000000 in
set_option maxRecDepth 100000 in
theorem ctX4_append {X : Cx_} {this : Nat} {a1 : Option Nat} {a2 : Int32} {a3 : Int32} {M : Mm} {post : Int32 → Mm → Prop} (h : PX4_append this a1 a2 a3 M post) : CT X mX4_append rX4_append [.inr (.inr (some this)), .inr (.inr a1), .inl a2, .inl a3] M (pI_ post) := by
  unfold PX4_append at h
  refine CT.of (by decide +kernel) (Nat.le_of_ble_eq_true rfl) ?_
  show VV X mX4_append rX4_append (pI_ post) 0 [(0, .inr (.inr (some this))), (1, .inr (.inr a1)), (2, .inl a2), (3, .inl a3)] [] M 0 0
  refine vv_aload_n (mi := mX4_append) (pc := 0) 0 dX4_append_0 rfl rfl ?_
  obtain ⟨ht1, h⟩ := h
  refine vv_getI (mi := mX4_append) (pc := 1) 4 1 rfl ht1 fl_X4_17 (Nat.le_of_ble_eq_true rfl) dX4_append_1 ?_
  refine vv_aload_n (mi := mX4_append) (pc := 4) 0 dX4_append_4 rfl rfl ?_
  refine vv_getR (mi := mX4_append) (pc := 5) 4 0 rfl ht1 fl_X4_11 (Nat.le_of_ble_eq_true rfl) dX4_append_5 ?_
  obtain ⟨aq2, hs3, h⟩ := h
  obtain ⟨ht4, h⟩ := h
  refine vv_alen (mi := mX4_append) (pc := 8) (t := 26) (Nat.le_of_ble_eq_true rfl) (Nat.le_of_ble_eq_true rfl) rfl hs3 ht4 dX4_append_8 ?_
  refine vv_icmp_lt (mi := mX4_append) (pc := 9) 15 dX4_append_9 rfl (fun c5 => ?_) (fun c5 => ?_)
  · replace h := h.1 c5
    refine vv_aload_n (mi := mX4_append) (pc := 15) 0 dX4_append_15 rfl rfl ?_
    refine vv_getR (mi := mX4_append) (pc := 16) 4 0 rfl ht1 fl_X4_11 (Nat.le_of_ble_eq_true rfl) dX4_append_16 ?_
    refine vv_aload_n (mi := mX4_append) (pc := 19) 0 dX4_append_19 rfl rfl ?_
    refine vv_getI (mi := mX4_append) (pc := 20) 4 1 rfl ht1 fl_X4_17 (Nat.le_of_ble_eq_true rfl) dX4_append_20 ?_
    obtain ⟨n6, en6⟩ : ∃ z : Nat, z = ddZ M := ⟨_, rfl⟩
    replace h := h _ en6
    obtain ⟨M7, eM7⟩ : ∃ z : Mm, z = suN M 4 0 := ⟨_, rfl⟩
    replace h := h _ eM7
    refine vv_new (mi := mX4_append) (pc := 23) 3 (r := (RX3, TX3, 6)) rfl (Nat.le_of_ble_eq_true rfl) rfl nw_3 cl_X4_9 it_3 iz_3 (Nat.le_of_ble_eq_true rfl) (Nat.le_of_ble_eq_true rfl) dX4_append_23 en6 eM7 ?_
    refine vv_dup (mi := mX4_append) (pc := 26) dX4_append_26 rfl ?_
    refine vv_aload_n (mi := mX4_append) (pc := 27) 1 dX4_append_27 rfl rfl ?_
    refine vv_iload_n (mi := mX4_append) (pc := 28) 2 dX4_append_28 rfl rfl ?_
    refine vv_iload_n (mi := mX4_append) (pc := 29) 3 dX4_append_29 rfl rfl ?_
    refine vv_callI (mi := mX4_append) (pc := 30) (rest := [.inr (.inr (some n6)), .inl (ddI M this 1), .inr (.inr (ddR M this 0))]) (As := [.inr (.inr a1), .inl a2, .inl a3]) (ctX3_init (X := X) h) dX4_append_30 rfl rfl rfl mb_X3_init rfl ml_X4_24 im_X3_init ⟨(Nat.le_of_ble_eq_true rfl), (Nat.le_of_ble_eq_true rfl)⟩ ⟨(Nat.le_of_ble_eq_true rfl), (Nat.le_of_ble_eq_true rfl)⟩ (Nat.le_of_ble_eq_true rfl) rfl (kV_ (F := fun st M' => VV X mX4_append rX4_append (pI_ post) 33 [(0, .inr (.inr (some this))), (1, .inr (.inr a1)), (2, .inl a2), (3, .inl a3)] st M' 1 6) (fun M9 h => ?_))
    obtain ⟨ht10, h⟩ := h
    obtain ⟨hi11, h⟩ := h
    obtain ⟨ht12, h⟩ := h
    obtain ⟨M13, eM13⟩ : ∃ z : Mm, z = suR M9 aq2 (Int32.toNatClampNeg (ddI M this 1)) (some n6) := ⟨_, rfl⟩
    replace h := h _ eM13
    refine vv_aast (mi := mX4_append) (pc := 33) (t := 26) (ci := 3) (r := (RX3, TX3, 6)) (Nat.le_of_ble_eq_true rfl) (Nat.le_of_ble_eq_true rfl) rfl rfl rfl ht12 hs3 ht10 hi11 dX4_append_33 eM13 ?_
    refine vv_aload_n (mi := mX4_append) (pc := 34) 0 dX4_append_34 rfl rfl ?_
    refine vv_dup (mi := mX4_append) (pc := 35) dX4_append_35 rfl ?_
    obtain ⟨ht14, h⟩ := h
    refine vv_getI (mi := mX4_append) (pc := 36) 4 1 rfl ht14 fl_X4_17 (Nat.le_of_ble_eq_true rfl) dX4_append_36 ?_
    refine vv_iconst (mi := mX4_append) (pc := 39) 1 dX4_append_39 rfl ?_
    refine vv_iadd (mi := mX4_append) (pc := 40) dX4_append_40 ?_
    obtain ⟨M15, eM15⟩ : ∃ z : Mm, z = suI M13 this 1 ((ddI M13 this 1) + 1) := ⟨_, rfl⟩
    replace h := h _ eM15
    refine vv_putI (mi := mX4_append) (pc := 41) 4 1 rfl ht14 fq_X4_17 (fun q => by cases q) rfl (Nat.le_of_ble_eq_true rfl) dX4_append_41 eM15 ?_
    refine vv_aload_n (mi := mX4_append) (pc := 44) 0 dX4_append_44 rfl rfl ?_
    refine vv_getI (mi := mX4_append) (pc := 45) 4 1 rfl (tgI_ eM15 ht14) fl_X4_17 (Nat.le_of_ble_eq_true rfl) dX4_append_45 ?_
    refine vv_iconst (mi := mX4_append) (pc := 48) 1 dX4_append_48 rfl ?_
    refine vv_isub (mi := mX4_append) (pc := 49) dX4_append_49 ?_
    exact vv_iret (mi := mX4_append) (pc := 50) dX4_append_50 rfl (Nat.le_of_ble_eq_true rfl) (Nat.le_of_ble_eq_true rfl) h
  · replace h := h.2 c5
    refine vv_bipush (mi := mX4_append) (pc := 12) (-3) dX4_append_12 rfl ?_
    exact vv_iret (mi := mX4_append) (pc := 14) dX4_append_14 rfl (Nat.le_of_ble_eq_true rfl) (Nat.le_of_ble_eq_true rfl) h
set_option maxHeartbeats 4000000 in
set_option maxRecDepth 100000 in
theorem ctX7_init {X : Cx_} {this : Nat} {a1 : Int32} {a2 : Int32} {a3 : Option Nat} {M : Mm} {post : Mm → Prop} (h : PX7_init this a1 a2 a3 M post) : CT X mX7_init rX7_init [.inr (.inr (some this)), .inl a1, .inl a2, .inr (.inr a3)] M (pV_ post) := by
  unfold PX7_init at h
  refine CT.of (by decide +kernel) (Nat.le_of_ble_eq_true rfl) ?_
  show VV X mX7_init rX7_init (pV_ post) 0 [(0, .inr (.inr (some this))), (1, .inl a1), (2, .inl a2), (3, .inr (.inr a3))] [] M 0 0
  refine vv_aload_n (mi := mX7_init) (pc := 0) 0 dX7_init_0 rfl rfl ?_
  refine vv_objInit (mi := mX7_init) (pc := 1) dX7_init_1 oi_X7_1 im_obj co_obj (Nat.le_of_ble_eq_true rfl) (Nat.le_of_ble_eq_true rfl) (Nat.le_of_ble_eq_true rfl) ?_
  refine vv_aload_n (mi := mX7_init) (pc := 4) 0 dX7_init_4 rfl rfl ?_
  refine vv_iload_n (mi := mX7_init) (pc := 5) 1 dX7_init_5 rfl rfl ?_
  obtain ⟨ht1, h⟩ := h
  obtain ⟨M2, eM2⟩ : ∃ z : Mm, z = suI M this 0 a1 := ⟨_, rfl⟩
  replace h := h _ eM2
  refine vv_putI (mi := mX7_init) (pc := 6) 7 0 rfl ht1 fq_X7_7 (fun _ => rfl) rfl (Nat.le_of_ble_eq_true rfl) dX7_init_6 eM2 ?_
  refine vv_aload_n (mi := mX7_init) (pc := 9) 0 dX7_init_9 rfl rfl ?_
  refine vv_iload_n (mi := mX7_init) (pc := 10) 2 dX7_init_10 rfl rfl ?_
  obtain ⟨M3, eM3⟩ : ∃ z : Mm, z = suI M2 this 1 a2 := ⟨_, rfl⟩
  replace h := h _ eM3
  refine vv_putI (mi := mX7_init) (pc := 11) 7 1 rfl (tgI_ eM2 ht1) fq_X7_13 (fun _ => rfl) rfl (Nat.le_of_ble_eq_true rfl) dX7_init_11 eM3 ?_
  refine vv_aload_n (mi := mX7_init) (pc := 14) 0 dX7_init_14 rfl rfl ?_
  refine vv_aload_n (mi := mX7_init) (pc := 15) 3 dX7_init_15 rfl rfl ?_
  obtain ⟨M4, eM4⟩ : ∃ z : Mm, z = suR M3 this 2 a3 := ⟨_, rfl⟩
  replace h := h _ eM4
  refine vv_putR (mi := mX7_init) (pc := 16) 7 2 (.object "DialDesk$Porting") rfl rfl (tgI_ eM3 (tgI_ eM2 ht1)) fq_X7_16 (fun _ => rfl) rfl (Nat.le_of_ble_eq_true rfl) dX7_init_16 eM4 ?_
  exact vv_vret (mi := mX7_init) (pc := 19) dX7_init_19 rfl (Nat.le_of_ble_eq_true rfl) (Nat.le_of_ble_eq_true rfl) h
set_option maxHeartbeats 4000000 in
set_option maxRecDepth 100000 in
theorem ctX4_portTo {X : Cx_} {this : Nat} {a1 : Option Nat} {a2 : Int32} {a3 : Int32} {M : Mm} {post : Int32 → Mm → Prop} (h : PX4_portTo this a1 a2 a3 M post) : CT X mX4_portTo rX4_portTo [.inr (.inr (some this)), .inr (.inr a1), .inl a2, .inl a3] M (pI_ post) := by
  unfold PX4_portTo at h
  refine CT.of (by decide +kernel) (Nat.le_of_ble_eq_true rfl) ?_
  show VV X mX4_portTo rX4_portTo (pI_ post) 0 [(0, .inr (.inr (some this))), (1, .inr (.inr a1)), (2, .inl a2), (3, .inl a3)] [] M 0 0
  refine vv_aload_n (mi := mX4_portTo) (pc := 0) 0 dX4_portTo_0 rfl rfl ?_
  obtain ⟨ht1, h⟩ := h
  refine vv_getI (mi := mX4_portTo) (pc := 1) 4 2 rfl ht1 fl_X4_21 (Nat.le_of_ble_eq_true rfl) dX4_portTo_1 ?_
  refine vv_sipush (mi := mX4_portTo) (pc := 4) 500 dX4_portTo_4 rfl ?_
  refine vv_icmp_lt (mi := mX4_portTo) (pc := 7) 13 dX4_portTo_7 rfl (fun c2 => ?_) (fun c2 => ?_)
  · replace h := h.1 c2
    refine vv_aload_n (mi := mX4_portTo) (pc := 13) 1 dX4_portTo_13 rfl rfl ?_
    refine vv_iload_n (mi := mX4_portTo) (pc := 14) 3 dX4_portTo_14 rfl rfl ?_
    obtain ⟨aq3, hs4, h⟩ := h
    obtain ⟨ht5, h⟩ := h
    refine vv_callV (mi := mX4_portTo) (pc := 15) (rest := []) (As := [.inl a3]) (ctX3_carrierOn (X := X) h) dX4_portTo_15 hs4 ht5 (Nat.le_of_ble_eq_true rfl) rfl mb_X3_carrierOn rfl ml_X4_27 im_X3_carrierOn se_X3_carrierOn ⟨(Nat.le_of_ble_eq_true rfl), (Nat.le_of_ble_eq_true rfl)⟩ ⟨(Nat.le_of_ble_eq_true rfl), (Nat.le_of_ble_eq_true rfl)⟩ (Nat.le_of_ble_eq_true rfl) rfl (kI_ (F := fun st M' => VV X mX4_portTo rX4_portTo (pI_ post) 18 [(0, .inr (.inr (some this))), (1, .inr (.inr a1)), (2, .inl a2), (3, .inl a3)] st M' 0 0) (fun r6 M7 h => ?_))
    refine vv_istore (mi := mX4_portTo) (pc := 18) [(4, .inl r6), (0, .inr (.inr (some this))), (1, .inr (.inr a1)), (2, .inl a2), (3, .inl a3)] dX4_portTo_18 (Nat.le_of_ble_eq_true rfl) rfl ?_
    refine vv_aload_n (mi := mX4_portTo) (pc := 20) 2 dX4_portTo_20 rfl rfl ?_
    obtain ⟨n8, en8⟩ : ∃ z : Nat, z = ddZ M7 := ⟨_, rfl⟩
    replace h := h _ en8
    obtain ⟨M9, eM9⟩ : ∃ z : Mm, z = suN M7 8 0 := ⟨_, rfl⟩
    replace h := h _ eM9
    refine vv_new (mi := mX4_portTo) (pc := 21) 7 (r := (RX7, TX7, 3)) rfl (Nat.le_of_ble_eq_true rfl) rfl nw_7 cl_X4_31 it_7 iz_7 (Nat.le_of_ble_eq_true rfl) (Nat.le_of_ble_eq_true rfl) dX4_portTo_21 en8 eM9 ?_
    refine vv_dup (mi := mX4_portTo) (pc := 24) dX4_portTo_24 rfl ?_
    refine vv_iload_n (mi := mX4_portTo) (pc := 25) 3 dX4_portTo_25 rfl rfl ?_
    refine vv_iload_n (mi := mX4_portTo) (pc := 26) 4 dX4_portTo_26 rfl rfl ?_
    refine vv_aload_n (mi := mX4_portTo) (pc := 27) 2 dX4_portTo_27 rfl rfl ?_
    obtain ⟨ht10, h⟩ := h
    refine vv_getR (mi := mX4_portTo) (pc := 28) 3 5 hs4 ht10 fl_X4_33 (Nat.le_of_ble_eq_true rfl) dX4_portTo_28 ?_
    refine vv_callI (mi := mX4_portTo) (pc := 31) (rest := [.inr (.inr (some n8)), .inr (.inr a1)]) (As := [.inl a2, .inl a3, .inr (.inr (ddR M9 aq3 5))]) (ctX7_init (X := X) h) dX4_portTo_31 rfl rfl rfl mb_X7_init rfl ml_X4_37 im_X7_init ⟨(Nat.le_of_ble_eq_true rfl), (Nat.le_of_ble_eq_true rfl)⟩ ⟨(Nat.le_of_ble_eq_true rfl), (Nat.le_of_ble_eq_true rfl)⟩ (Nat.le_of_ble_eq_true rfl) rfl (kV_ (F := fun st M' => VV X mX4_portTo rX4_portTo (pI_ post) 34 [(4, .inl r6), (0, .inr (.inr (some this))), (1, .inr (.inr a1)), (2, .inl a2), (3, .inl a3)] st M' 1 3) (fun M12 h => ?_))
    obtain ⟨ht13, h⟩ := h
    obtain ⟨M14, eM14⟩ : ∃ z : Mm, z = suR M12 aq3 5 (some n8) := ⟨_, rfl⟩
    replace h := h _ eM14
    refine vv_putR (mi := mX4_portTo) (pc := 34) 3 5 (.object "DialDesk$Porting") rfl hs4 ht13 fq_X4_33 (fun q => by cases q) rfl (Nat.le_of_ble_eq_true rfl) dX4_portTo_34 eM14 ?_
    refine vv_aload_n (mi := mX4_portTo) (pc := 37) 1 dX4_portTo_37 rfl rfl ?_
    refine vv_dup (mi := mX4_portTo) (pc := 38) dX4_portTo_38 rfl ?_
    obtain ⟨ht15, h⟩ := h
    refine vv_getI (mi := mX4_portTo) (pc := 39) 4 2 rfl ht15 fl_X4_21 (Nat.le_of_ble_eq_true rfl) dX4_portTo_39 ?_
    refine vv_iconst (mi := mX4_portTo) (pc := 42) 1 dX4_portTo_42 rfl ?_
    refine vv_iadd (mi := mX4_portTo) (pc := 43) dX4_portTo_43 ?_
    obtain ⟨M16, eM16⟩ : ∃ z : Mm, z = suI M14 this 2 ((ddI M14 this 2) + 1) := ⟨_, rfl⟩
    replace h := h _ eM16
    refine vv_putI (mi := mX4_portTo) (pc := 44) 4 2 rfl ht15 fq_X4_21 (fun q => by cases q) rfl (Nat.le_of_ble_eq_true rfl) dX4_portTo_44 eM16 ?_
    refine vv_iload (mi := mX4_portTo) (pc := 47) 0 dX4_portTo_47 rfl ?_
    exact vv_iret (mi := mX4_portTo) (pc := 49) dX4_portTo_49 rfl (Nat.le_of_ble_eq_true rfl) (Nat.le_of_ble_eq_true rfl) h
  · replace h := h.2 c2
    refine vv_bipush (mi := mX4_portTo) (pc := 10) (-3) dX4_portTo_10 rfl ?_
    exact vv_iret (mi := mX4_portTo) (pc := 12) dX4_portTo_12 rfl (Nat.le_of_ble_eq_true rfl) (Nat.le_of_ble_eq_true rfl) h
set_option maxHeartbeats 4000000 in
set_option maxRecDepth 100000 in
theorem bX4_findOn_3 {X : Cx_} {kb3 : Nat → (Option Nat) → Int64 → Int32 → Int32 → Mm → Prop} {post : Int32 → Mm → Prop} (hb3 : ∀ (this : Nat) (x1 : Option Nat) (x2 : Int64) (x4 : Int32) (x5 : Int32) (M : Mm), kb3 this x1 x2 x4 x5 M → VV X mX4_findOn rX4_findOn (pI_ post) 3 [(0, .inr (.inr (some this))), (1, .inr (.inr x1)), (2, .inr (.inl x2)), (4, .inl x4), (5, .inl x5)] [] M 0 0) {this : Nat} {x1 : Option Nat} {x2 : Int64} {x4 : Int32} {x5 : Int32} {M : Mm} (h : BX4_findOn_3 kb3 post this x1 x2 x4 x5 M) : VV X mX4_findOn rX4_findOn (pI_ post) 3 [(0, .inr (.inr (some this))), (1, .inr (.inr x1)), (2, .inr (.inl x2)), (4, .inl x4), (5, .inl x5)] [] M 0 0 := by
  unfold BX4_findOn_3 at h
  refine vv_iload (mi := mX4_findOn) (pc := 3) 4 dX4_findOn_3 rfl ?_
  refine vv_aload_n (mi := mX4_findOn) (pc := 5) 0 dX4_findOn_5 rfl rfl ?_
  obtain ⟨ht1, h⟩ := h
  refine vv_getI (mi := mX4_findOn) (pc := 6) 4 1 rfl ht1 fl_X4_17 (Nat.le_of_ble_eq_true rfl) dX4_findOn_6 ?_
  refine vv_icmp_ge (mi := mX4_findOn) (pc := 9) 56 dX4_findOn_9 rfl (fun c2 => ?_) (fun c2 => ?_)
  · replace h := h.1 c2
    refine vv_iconst (mi := mX4_findOn) (pc := 56) (-1) dX4_findOn_56 rfl ?_
    exact vv_iret (mi := mX4_findOn) (pc := 57) dX4_findOn_57 rfl (Nat.le_of_ble_eq_true rfl) (Nat.le_of_ble_eq_true rfl) h
  · replace h := h.2 c2
    refine vv_aload_n (mi := mX4_findOn) (pc := 12) 0 dX4_findOn_12 rfl rfl ?_
    refine vv_iload (mi := mX4_findOn) (pc := 13) 4 dX4_findOn_13 rfl ?_
    refine vv_callV (mi := mX4_findOn) (pc := 15) (rest := []) (As := [.inl x5]) (ctX4_lineWith (X := X) h) dX4_findOn_15 rfl ht1 (Nat.le_of_ble_eq_true rfl) rfl mb_X4_lineWith rfl ml_X4_40 im_X4_lineWith se_X4_lineWith ⟨(Nat.le_of_ble_eq_true rfl), (Nat.le_of_ble_eq_true rfl)⟩ ⟨(Nat.le_of_ble_eq_true rfl), (Nat.le_of_ble_eq_true rfl)⟩ (Nat.le_of_ble_eq_true rfl) rfl (kR_ (F := fun st M' => VV X mX4_findOn rX4_findOn (pI_ post) 18 [(0, .inr (.inr (some this))), (1, .inr (.inr x1)), (2, .inr (.inl x2)), (4, .inl x4), (5, .inl x5)] st M' 0 0) (fun r3 M4 h => ?_))
    refine vv_astore (mi := mX4_findOn) (pc := 18) [(6, .inr (.inr r3)), (0, .inr (.inr (some this))), (1, .inr (.inr x1)), (2, .inr (.inl x2)), (4, .inl x4), (5, .inl x5)] dX4_findOn_18 (Nat.le_of_ble_eq_true rfl) rfl ?_
    refine vv_aload (mi := mX4_findOn) (pc := 20) 0 dX4_findOn_20 rfl ?_
    refine vv_ifnull (mi := mX4_findOn) (pc := 22) 50 dX4_findOn_22 rfl (fun c5 => ?_) (fun aq6 c5 => ?_)
    · replace h := h.1 c5
      refine vv_iinc (mi := mX4_findOn) (pc := 50) (x5 + 1) 5 [(5, .inl (x5 + 1)), (6, .inr (.inr r3)), (0, .inr (.inr (some this))), (1, .inr (.inr x1)), (2, .inr (.inl x2)), (4, .inl x4)] dX4_findOn_50 rfl rfl (Nat.le_of_ble_eq_true rfl) rfl ?_
      refine vv_goto (mi := mX4_findOn) (pc := 53) 3 dX4_findOn_53 rfl ?_
      refine vv_sub (mi := mX4_findOn) [(0, .inr (.inr (some this))), (1, .inr (.inr x1)), (2, .inr (.inl x2)), (4, .inl x4), (5, .inl (x5 + 1))] [2, 3, 4, 5, 0] rfl ?_
      exact hb3 _ _ _ _ _ _ h
    · replace h := h.2 aq6 c5
      refine vv_aload (mi := mX4_findOn) (pc := 25) 0 dX4_findOn_25 rfl ?_
      obtain ⟨ht7, h⟩ := h
      refine vv_getI (mi := mX4_findOn) (pc := 27) 3 1 c5 ht7 fl_X4_44 (Nat.le_of_ble_eq_true rfl) dX4_findOn_27 ?_
      refine vv_i2l (mi := mX4_findOn) (pc := 30) dX4_findOn_30 ?_
      refine vv_lload_n (mi := mX4_findOn) (pc := 31) 3 dX4_findOn_31 rfl rfl ?_
      refine vv_lcmp (mi := mX4_findOn) (pc := 32) dX4_findOn_32 ?_
      refine vv_if_ne (mi := mX4_findOn) (pc := 33) 50 dX4_findOn_33 rfl (fun c8 => ?_) (fun c8 => ?_)
      · replace h := h.1 c8
        refine vv_iinc (mi := mX4_findOn) (pc := 50) (x5 + 1) 5 [(5, .inl (x5 + 1)), (6, .inr (.inr r3)), (0, .inr (.inr (some this))), (1, .inr (.inr x1)), (2, .inr (.inl x2)), (4, .inl x4)] dX4_findOn_50 rfl rfl (Nat.le_of_ble_eq_true rfl) rfl ?_
        refine vv_goto (mi := mX4_findOn) (pc := 53) 3 dX4_findOn_53 rfl ?_
        refine vv_sub (mi := mX4_findOn) [(0, .inr (.inr (some this))), (1, .inr (.inr x1)), (2, .inr (.inl x2)), (4, .inl x4), (5, .inl (x5 + 1))] [2, 3, 4, 5, 0] rfl ?_
        exact hb3 _ _ _ _ _ _ h
      · replace h := h.2 c8
        refine vv_aload (mi := mX4_findOn) (pc := 36) 0 dX4_findOn_36 rfl ?_
        refine vv_iload (mi := mX4_findOn) (pc := 38) 4 dX4_findOn_38 rfl ?_
        refine vv_callV (mi := mX4_findOn) (pc := 40) (rest := []) (As := [.inl x4]) (ctX3_blockOn (X := X) h) dX4_findOn_40 c5 ht7 (Nat.le_of_ble_eq_true rfl) rfl mb_X3_blockOn rfl ml_X4_47 im_X3_blockOn se_X3_blockOn ⟨(Nat.le_of_ble_eq_true rfl), (Nat.le_of_ble_eq_true rfl)⟩ ⟨(Nat.le_of_ble_eq_true rfl), (Nat.le_of_ble_eq_true rfl)⟩ (Nat.le_of_ble_eq_true rfl) rfl (kR_ (F := fun st M' => VV X mX4_findOn rX4_findOn (pI_ post) 43 [(6, .inr (.inr r3)), (0, .inr (.inr (some this))), (1, .inr (.inr x1)), (2, .inr (.inl x2)), (4, .inl x4), (5, .inl x5)] st M' 0 0) (fun r9 M10 h => ?_))
        refine vv_aload_n (mi := mX4_findOn) (pc := 43) 2 dX4_findOn_43 rfl rfl ?_
        refine vv_acmp_ne (mi := mX4_findOn) (pc := 44) 50 dX4_findOn_44 rfl (fun c11 => ?_) (fun c11 => ?_)
        · replace h := h.1 c11
          refine vv_iinc (mi := mX4_findOn) (pc := 50) (x5 + 1) 5 [(5, .inl (x5 + 1)), (6, .inr (.inr r3)), (0, .inr (.inr (some this))), (1, .inr (.inr x1)), (2, .inr (.inl x2)), (4, .inl x4)] dX4_findOn_50 rfl rfl (Nat.le_of_ble_eq_true rfl) rfl ?_
          refine vv_goto (mi := mX4_findOn) (pc := 53) 3 dX4_findOn_53 rfl ?_
          refine vv_sub (mi := mX4_findOn) [(0, .inr (.inr (some this))), (1, .inr (.inr x1)), (2, .inr (.inl x2)), (4, .inl x4), (5, .inl (x5 + 1))] [2, 3, 4, 5, 0] rfl ?_
          exact hb3 _ _ _ _ _ _ h
        · replace h := h.2 c11
          refine vv_iload (mi := mX4_findOn) (pc := 47) 5 dX4_findOn_47 rfl ?_
          exact vv_iret (mi := mX4_findOn) (pc := 49) dX4_findOn_49 rfl (Nat.le_of_ble_eq_true rfl) (Nat.le_of_ble_eq_true rfl) h
theorem loX4_findOn_3 {X : Cx_}  {post : Int32 → Mm → Prop}  : ∀ (fu : Nat) {this : Nat} {x1 : Option Nat} {x2 : Int64} {x4 : Int32} {x5 : Int32} {M : Mm}, DX4_findOn_3  post fu this x1 x2 x4 x5 M → VV X mX4_findOn rX4_findOn (pI_ post) 3 [(0, .inr (.inr (some this))), (1, .inr (.inr x1)), (2, .inr (.inl x2)), (4, .inl x4), (5, .inl x5)] [] M 0 0
  | 0, _, _, _, _, _, _, h => False.elim h
  | fu + 1, _, _, _, _, _, _, h => bX4_findOn_3 (fun this x1 x2 x4 x5 M h => loX4_findOn_3  fu h) h
set_option maxHeartbeats 4000000 in
set_option maxRecDepth 100000 in
theorem ctX4_findOn {X : Cx_} {this : Nat} {a1 : Option Nat} {a2 : Int64} {a3 : Int32} {M : Mm} {post : Int32 → Mm → Prop} (h : PX4_findOn this a1 a2 a3 M post) : CT X mX4_findOn rX4_findOn [.inr (.inr (some this)), .inr (.inr a1), .inr (.inl a2), .inl a3] M (pI_ post) := by
  unfold PX4_findOn at h
  refine CT.of (by decide +kernel) (Nat.le_of_ble_eq_true rfl) ?_
  show VV X mX4_findOn rX4_findOn (pI_ post) 0 [(0, .inr (.inr (some this))), (1, .inr (.inr a1)), (2, .inr (.inl a2)), (4, .inl a3)] [] M 0 0
  refine vv_iconst (mi := mX4_findOn) (pc := 0) 0 dX4_findOn_0 rfl ?_
  refine vv_istore (mi := mX4_findOn) (pc := 1) [(5, .inl 0), (0, .inr (.inr (some this))), (1, .inr (.inr a1)), (2, .inr (.inl a2)), (4, .inl a3)] dX4_findOn_1 (Nat.le_of_ble_eq_true rfl) rfl ?_
  refine vv_sub (mi := mX4_findOn) [(0, .inr (.inr (some this))), (1, .inr (.inr a1)), (2, .inr (.inl a2)), (4, .inl a3), (5, .inl 0)] [1, 2, 3, 4, 0] rfl ?_
  obtain ⟨fu, h⟩ := h
  exact loX4_findOn_3 (X := X)  fu h
set_option maxHeartbeats 4000000 in
set_option maxRecDepth 100000 in
theorem ctX10_lastOf {X : Cx_} {a1 : Int64} {a2 : Int32} {M : Mm} {post : Int64 → Mm → Prop} (h : PX10_lastOf a1 a2 M post) : CT X mX10_lastOf rX10_lastOf [.inr (.inl a1), .inl a2] M (pL_ post) := by
  unfold PX10_lastOf at h
  refine CT.of (by decide +kernel) (Nat.le_of_ble_eq_true rfl) ?_
  show VV X mX10_lastOf rX10_lastOf (pL_ post) 0 [(0, .inr (.inl a1)), (2, .inl a2)] [] M 0 0
  refine vv_iload_n (mi := mX10_lastOf) (pc := 0) 1 dX10_lastOf_0 rfl rfl ?_
  refine vv_callS (mi := mX10_lastOf) (pc := 1) (rest := []) (As := [.inl a2]) (ctX10_tens (X := X) h) dX10_lastOf_1 mb_X10_tens rfl ml_X10_300 sc_X10_tens ⟨(Nat.le_of_ble_eq_true rfl), (Nat.le_of_ble_eq_true rfl)⟩ ⟨(Nat.le_of_ble_eq_true rfl), (Nat.le_of_ble_eq_true rfl)⟩ (Nat.le_of_ble_eq_true rfl) rfl (kL_ (F := fun st M' => VV X mX10_lastOf rX10_lastOf (pL_ post) 4 [(0, .inr (.inl a1)), (2, .inl a2)] st M' 0 0) (fun r1 M2 h => ?_))
  refine vv_lstore_n (mi := mX10_lastOf) (pc := 4) [(3, .inr (.inl r1)), (0, .inr (.inl a1)), (2, .inl a2)] dX10_lastOf_4 rfl (Nat.le_of_ble_eq_true rfl) rfl ?_
  refine vv_lload_n (mi := mX10_lastOf) (pc := 5) 0 dX10_lastOf_5 rfl rfl ?_
  refine vv_lconst (mi := mX10_lastOf) (pc := 6) 0 dX10_lastOf_6 rfl ?_
  refine vv_lcmp (mi := mX10_lastOf) (pc := 7) dX10_lastOf_7 ?_
  refine vv_if_le (mi := mX10_lastOf) (pc := 8) 19 dX10_lastOf_8 rfl (fun c3 => ?_) (fun c3 => ?_)
  · replace h := h.1 c3
    refine vv_lload_n (mi := mX10_lastOf) (pc := 19) 1 dX10_lastOf_19 rfl rfl ?_
    exact vv_lret (mi := mX10_lastOf) (pc := 20) dX10_lastOf_20 rfl (Nat.le_of_ble_eq_true rfl) (Nat.le_of_ble_eq_true rfl) h
  · replace h := h.2 c3
    refine vv_lload_n (mi := mX10_lastOf) (pc := 11) 0 dX10_lastOf_11 rfl rfl ?_
    refine vv_lload_n (mi := mX10_lastOf) (pc := 12) 1 dX10_lastOf_12 rfl rfl ?_
    refine vv_lload_n (mi := mX10_lastOf) (pc := 13) 0 dX10_lastOf_13 rfl rfl ?_
    obtain ⟨hz4, h⟩ := h
    refine vv_lrem (mi := mX10_lastOf) (pc := 14) hz4 dX10_lastOf_14 ?_
    refine vv_ladd (mi := mX10_lastOf) (pc := 15) dX10_lastOf_15 ?_
    refine vv_goto (mi := mX10_lastOf) (pc := 16) 20 dX10_lastOf_16 rfl ?_
    exact vv_lret (mi := mX10_lastOf) (pc := 20) dX10_lastOf_20 rfl (Nat.le_of_ble_eq_true rfl) (Nat.le_of_ble_eq_true rfl) h
set_option maxHeartbeats 4000000 in
set_option maxRecDepth 100000 in
theorem bX4_findBy_15 {X : Cx_}  {post : Int32 → Mm → Prop}  {this : Nat} {x1 : Option Nat} {x2 : Int64} {x4 : Int32} {x5 : Int32} {s0 : Option Nat} {M : Mm} (h : BX4_findBy_15  post this x1 x2 x4 x5 s0 M) : VV X mX4_findBy rX4_findBy (pI_ post) 15 [(0, .inr (.inr (some this))), (1, .inr (.inr x1)), (2, .inr (.inl x2)), (4, .inl x4), (5, .inl x5)] [.inr (.inr s0)] M 0 0 := by
  unfold BX4_findBy_15 at h
  refine vv_astore (mi := mX4_findBy) (pc := 15) [(6, .inr (.inr s0)), (0, .inr (.inr (some this))), (1, .inr (.inr x1)), (2, .inr (.inl x2)), (4, .inl x4), (5, .inl x5)] dX4_findBy_15 (Nat.le_of_ble_eq_true rfl) rfl ?_
  refine vv_aload (mi := mX4_findBy) (pc := 17) 0 dX4_findBy_17 rfl ?_
  refine vv_ifnonnull (mi := mX4_findBy) (pc := 19) 24 dX4_findBy_19 rfl (fun aq6 c5 => ?_) (fun c5 => ?_)
  · replace h := h.2 aq6 c5
    refine vv_aload (mi := mX4_findBy) (pc := 24) 0 dX4_findBy_24 rfl ?_
    refine vv_lload_n (mi := mX4_findBy) (pc := 26) 3 dX4_findBy_26 rfl rfl ?_
    refine vv_iload (mi := mX4_findBy) (pc := 27) 4 dX4_findBy_27 rfl ?_
    refine vv_aload_n (mi := mX4_findBy) (pc := 29) 2 dX4_findBy_29 rfl rfl ?_
    obtain ⟨aq7, hs8, h⟩ := h
    obtain ⟨ht9, h⟩ := h
    refine vv_getI (mi := mX4_findBy) (pc := 30) 2 3 hs8 ht9 fl_X4_60 (Nat.le_of_ble_eq_true rfl) dX4_findBy_30 ?_
    refine vv_callSN (mi := mX4_findBy) (pc := 33) (rest := [.inr (.inr s0)]) (As := [.inr (.inl x2), .inl x4, .inl (ddI M aq7 3)]) (ctX10_figureBit (X := X) h) dX4_findBy_33 mb_X10_figureBit rfl mn_X4_63 sc_X10_figureBit ⟨(Nat.le_of_ble_eq_true rfl), (Nat.le_of_ble_eq_true rfl)⟩ ⟨(Nat.le_of_ble_eq_true rfl), (Nat.le_of_ble_eq_true rfl)⟩ (Nat.le_of_ble_eq_true rfl) rfl (kI_ (F := fun st M' => VV X mX4_findBy rX4_findBy (pI_ post) 36 [(6, .inr (.inr s0)), (0, .inr (.inr (some this))), (1, .inr (.inr x1)), (2, .inr (.inl x2)), (4, .inl x4), (5, .inl x5)] st M' 0 0) (fun r10 M11 h => ?_))
    refine vv_iload (mi := mX4_findBy) (pc := 36) 5 dX4_findBy_36 rfl ?_
    obtain ⟨ht12, h⟩ := h
    refine vv_callV (mi := mX4_findBy) (pc := 38) (rest := []) (As := [.inl r10, .inl x5]) (ctX2_followedTo (X := X) h) dX4_findBy_38 c5 ht12 (Nat.le_of_ble_eq_true rfl) rfl mb_X2_followedTo rfl ml_X4_67 im_X2_followedTo se_X2_followedTo ⟨(Nat.le_of_ble_eq_true rfl), (Nat.le_of_ble_eq_true rfl)⟩ ⟨(Nat.le_of_ble_eq_true rfl), (Nat.le_of_ble_eq_true rfl)⟩ (Nat.le_of_ble_eq_true rfl) rfl (kR_ (F := fun st M' => VV X mX4_findBy rX4_findBy (pI_ post) 41 [(6, .inr (.inr s0)), (0, .inr (.inr (some this))), (1, .inr (.inr x1)), (2, .inr (.inl x2)), (4, .inl x4), (5, .inl x5)] st M' 0 0) (fun r13 M14 h => ?_))
    refine vv_astore (mi := mX4_findBy) (pc := 41) [(7, .inr (.inr r13)), (6, .inr (.inr s0)), (0, .inr (.inr (some this))), (1, .inr (.inr x1)), (2, .inr (.inl x2)), (4, .inl x4), (5, .inl x5)] dX4_findBy_41 (Nat.le_of_ble_eq_true rfl) rfl ?_
    refine vv_aload (mi := mX4_findBy) (pc := 43) 0 dX4_findBy_43 rfl ?_
    refine vv_ifnonnull (mi := mX4_findBy) (pc := 45) 52 dX4_findBy_45 rfl (fun aq16 c15 => ?_) (fun c15 => ?_)
    · replace h := h.2 aq16 c15
      refine vv_aload_n (mi := mX4_findBy) (pc := 52) 2 dX4_findBy_52 rfl rfl ?_
      refine vv_aload (mi := mX4_findBy) (pc := 53) 0 dX4_findBy_53 rfl ?_
      refine vv_lload_n (mi := mX4_findBy) (pc := 55) 4 dX4_findBy_55 rfl rfl ?_
      refine vv_iload (mi := mX4_findBy) (pc := 56) 5 dX4_findBy_56 rfl ?_
      refine vv_aload_n (mi := mX4_findBy) (pc := 58) 3 dX4_findBy_58 rfl rfl ?_
      obtain ⟨ht17, h⟩ := h
      refine vv_getI (mi := mX4_findBy) (pc := 59) 2 3 hs8 ht17 fl_X4_60 (Nat.le_of_ble_eq_true rfl) dX4_findBy_59 ?_
      refine vv_isub (mi := mX4_findBy) (pc := 62) dX4_findBy_62 ?_
      refine vv_callSN (mi := mX4_findBy) (pc := 63) (rest := [.inr (.inr r13), .inr (.inr (some this))]) (As := [.inr (.inl x2), .inl (x4 - (ddI M14 aq7 3))]) (ctX10_lastOf (X := X) h) dX4_findBy_63 mb_X10_lastOf rfl mn_X4_71 sc_X10_lastOf ⟨(Nat.le_of_ble_eq_true rfl), (Nat.le_of_ble_eq_true rfl)⟩ ⟨(Nat.le_of_ble_eq_true rfl), (Nat.le_of_ble_eq_true rfl)⟩ (Nat.le_of_ble_eq_true rfl) rfl (kL_ (F := fun st M' => VV X mX4_findBy rX4_findBy (pI_ post) 66 [(7, .inr (.inr r13)), (6, .inr (.inr s0)), (0, .inr (.inr (some this))), (1, .inr (.inr x1)), (2, .inr (.inl x2)), (4, .inl x4), (5, .inl x5)] st M' 0 0) (fun r18 M19 h => ?_))
      refine vv_iload (mi := mX4_findBy) (pc := 66) 6 dX4_findBy_66 rfl ?_
      obtain ⟨ht20, h⟩ := h
      refine vv_callV (mi := mX4_findBy) (pc := 68) (rest := []) (As := [.inr (.inr r13), .inr (.inl r18), .inl x5]) (ctX4_findOn (X := X) h) dX4_findBy_68 rfl ht20 (Nat.le_of_ble_eq_true rfl) rfl mb_X4_findOn rfl ml_X4_75 im_X4_findOn se_X4_findOn ⟨(Nat.le_of_ble_eq_true rfl), (Nat.le_of_ble_eq_true rfl)⟩ ⟨(Nat.le_of_ble_eq_true rfl), (Nat.le_of_ble_eq_true rfl)⟩ (Nat.le_of_ble_eq_true rfl) rfl (kI_ (F := fun st M' => VV X mX4_findBy rX4_findBy (pI_ post) 71 [(7, .inr (.inr r13)), (6, .inr (.inr s0)), (0, .inr (.inr (some this))), (1, .inr (.inr x1)), (2, .inr (.inl x2)), (4, .inl x4), (5, .inl x5)] st M' 0 0) (fun r21 M22 h => ?_))
      exact vv_iret (mi := mX4_findBy) (pc := 71) dX4_findBy_71 rfl (Nat.le_of_ble_eq_true rfl) (Nat.le_of_ble_eq_true rfl) h
    · replace h := h.1 c15
      refine vv_iconst (mi := mX4_findBy) (pc := 48) (-1) dX4_findBy_48 rfl ?_
      refine vv_goto (mi := mX4_findBy) (pc := 49) 71 dX4_findBy_49 rfl ?_
      exact vv_iret (mi := mX4_findBy) (pc := 71) dX4_findBy_71 rfl (Nat.le_of_ble_eq_true rfl) (Nat.le_of_ble_eq_true rfl) h
  · replace h := h.1 c5
    refine vv_iconst (mi := mX4_findBy) (pc := 22) (-1) dX4_findBy_22 rfl ?_
    exact vv_iret (mi := mX4_findBy) (pc := 23) dX4_findBy_23 rfl (Nat.le_of_ble_eq_true rfl) (Nat.le_of_ble_eq_true rfl) h
set_option maxHeartbeats 4000000 in
set_option maxRecDepth 100000 in
theorem ctX4_findBy {X : Cx_} {this : Nat} {a1 : Option Nat} {a2 : Int64} {a3 : Int32} {a4 : Int32} {M : Mm} {post : Int32 → Mm → Prop} (h : PX4_findBy this a1 a2 a3 a4 M post) : CT X mX4_findBy rX4_findBy [.inr (.inr (some this)), .inr (.inr a1), .inr (.inl a2), .inl a3, .inl a4] M (pI_ post) := by
  unfold PX4_findBy at h
  refine CT.of (by decide +kernel) (Nat.le_of_ble_eq_true rfl) ?_
  show VV X mX4_findBy rX4_findBy (pI_ post) 0 [(0, .inr (.inr (some this))), (1, .inr (.inr a1)), (2, .inr (.inl a2)), (4, .inl a3), (5, .inl a4)] [] M 0 0
  refine vv_aload_n (mi := mX4_findBy) (pc := 0) 1 dX4_findBy_0 rfl rfl ?_
  obtain ⟨aq1, hs2, h⟩ := h
  obtain ⟨ht3, h⟩ := h
  refine vv_getI (mi := mX4_findBy) (pc := 1) 2 0 hs2 ht3 fl_X4_51 (Nat.le_of_ble_eq_true rfl) dX4_findBy_1 ?_
  refine vv_if_ne (mi := mX4_findBy) (pc := 4) 11 dX4_findBy_4 rfl (fun c4 => ?_) (fun c4 => ?_)
  · replace h := h.1 c4
    refine vv_aload_n (mi := mX4_findBy) (pc := 11) 1 dX4_findBy_11 rfl rfl ?_
    refine vv_getR (mi := mX4_findBy) (pc := 12) 2 15 hs2 ht3 fl_X4_56 (Nat.le_of_ble_eq_true rfl) dX4_findBy_12 ?_
    refine vv_sub (mi := mX4_findBy) [(0, .inr (.inr (some this))), (1, .inr (.inr a1)), (2, .inr (.inl a2)), (4, .inl a3), (5, .inl a4)] [0, 1, 2, 3, 4] rfl ?_
    exact bX4_findBy_15 (X := X)  h
  · replace h := h.2 c4
    refine vv_aload_n (mi := mX4_findBy) (pc := 7) 1 dX4_findBy_7 rfl rfl ?_
    refine vv_goto (mi := mX4_findBy) (pc := 8) 15 dX4_findBy_8 rfl ?_
    refine vv_sub (mi := mX4_findBy) [(0, .inr (.inr (some this))), (1, .inr (.inr a1)), (2, .inr (.inl a2)), (4, .inl a3), (5, .inl a4)] [0, 1, 2, 3, 4] rfl ?_
    exact bX4_findBy_15 (X := X)  h
set_option maxHeartbeats 4000000 in
set_option maxRecDepth 100000 in
theorem bX4_numberedOn_4 {X : Cx_} {kb4 : Nat → Int32 → Int32 → Int32 → Mm → Prop} {post : Int32 → Mm → Prop} (hb4 : ∀ (this : Nat) (x1 : Int32) (x2 : Int32) (x3 : Int32) (M : Mm), kb4 this x1 x2 x3 M → VV X mX4_numberedOn rX4_numberedOn (pI_ post) 4 [(0, .inr (.inr (some this))), (1, .inl x1), (2, .inl x2), (3, .inl x3)] [] M 0 0) {this : Nat} {x1 : Int32} {x2 : Int32} {x3 : Int32} {M : Mm} (h : BX4_numberedOn_4 kb4 post this x1 x2 x3 M) : VV X mX4_numberedOn rX4_numberedOn (pI_ post) 4 [(0, .inr (.inr (some this))), (1, .inl x1), (2, .inl x2), (3, .inl x3)] [] M 0 0 := by
  unfold BX4_numberedOn_4 at h
  refine vv_iload_n (mi := mX4_numberedOn) (pc := 4) 3 dX4_numberedOn_4 rfl rfl ?_
  refine vv_aload_n (mi := mX4_numberedOn) (pc := 5) 0 dX4_numberedOn_5 rfl rfl ?_
  obtain ⟨ht1, h⟩ := h
  refine vv_getI (mi := mX4_numberedOn) (pc := 6) 4 1 rfl ht1 fl_X4_17 (Nat.le_of_ble_eq_true rfl) dX4_numberedOn_6 ?_
  refine vv_icmp_ge (mi := mX4_numberedOn) (pc := 9) 42 dX4_numberedOn_9 rfl (fun c2 => ?_) (fun c2 => ?_)
  · replace h := h.1 c2
    refine vv_iload_n (mi := mX4_numberedOn) (pc := 42) 2 dX4_numberedOn_42 rfl rfl ?_
    exact vv_iret (mi := mX4_numberedOn) (pc := 43) dX4_numberedOn_43 rfl (Nat.le_of_ble_eq_true rfl) (Nat.le_of_ble_eq_true rfl) h
  · replace h := h.2 c2
    refine vv_aload_n (mi := mX4_numberedOn) (pc := 12) 0 dX4_numberedOn_12 rfl rfl ?_
    refine vv_iload_n (mi := mX4_numberedOn) (pc := 13) 3 dX4_numberedOn_13 rfl rfl ?_
    refine vv_callV (mi := mX4_numberedOn) (pc := 14) (rest := []) (As := [.inl x3]) (ctX4_lineWith (X := X) h) dX4_numberedOn_14 rfl ht1 (Nat.le_of_ble_eq_true rfl) rfl mb_X4_lineWith rfl ml_X4_40 im_X4_lineWith se_X4_lineWith ⟨(Nat.le_of_ble_eq_true rfl), (Nat.le_of_ble_eq_true rfl)⟩ ⟨(Nat.le_of_ble_eq_true rfl), (Nat.le_of_ble_eq_true rfl)⟩ (Nat.le_of_ble_eq_true rfl) rfl (kR_ (F := fun st M' => VV X mX4_numberedOn rX4_numberedOn (pI_ post) 17 [(0, .inr (.inr (some this))), (1, .inl x1), (2, .inl x2), (3, .inl x3)] st M' 0 0) (fun r3 M4 h => ?_))
    refine vv_astore (mi := mX4_numberedOn) (pc := 17) [(4, .inr (.inr r3)), (0, .inr (.inr (some this))), (1, .inl x1), (2, .inl x2), (3, .inl x3)] dX4_numberedOn_17 (Nat.le_of_ble_eq_true rfl) rfl ?_
    refine vv_aload (mi := mX4_numberedOn) (pc := 19) 0 dX4_numberedOn_19 rfl ?_
    refine vv_ifnull (mi := mX4_numberedOn) (pc := 21) 36 dX4_numberedOn_21 rfl (fun c5 => ?_) (fun aq6 c5 => ?_)
    · replace h := h.1 c5
      refine vv_iinc (mi := mX4_numberedOn) (pc := 36) (x3 + 1) 4 [(3, .inl (x3 + 1)), (4, .inr (.inr r3)), (0, .inr (.inr (some this))), (1, .inl x1), (2, .inl x2)] dX4_numberedOn_36 rfl rfl (Nat.le_of_ble_eq_true rfl) rfl ?_
      refine vv_goto (mi := mX4_numberedOn) (pc := 39) 4 dX4_numberedOn_39 rfl ?_
      refine vv_sub (mi := mX4_numberedOn) [(0, .inr (.inr (some this))), (1, .inl x1), (2, .inl x2), (3, .inl (x3 + 1))] [2, 3, 4, 0] rfl ?_
      exact hb4 _ _ _ _ _ h
    · replace h := h.2 aq6 c5
      refine vv_aload (mi := mX4_numberedOn) (pc := 24) 0 dX4_numberedOn_24 rfl ?_
      refine vv_iload_n (mi := mX4_numberedOn) (pc := 26) 2 dX4_numberedOn_26 rfl rfl ?_
      obtain ⟨ht7, h⟩ := h
      refine vv_callV (mi := mX4_numberedOn) (pc := 27) (rest := []) (As := [.inl x1]) (ctX3_blockOn (X := X) h) dX4_numberedOn_27 c5 ht7 (Nat.le_of_ble_eq_true rfl) rfl mb_X3_blockOn rfl ml_X4_47 im_X3_blockOn se_X3_blockOn ⟨(Nat.le_of_ble_eq_true rfl), (Nat.le_of_ble_eq_true rfl)⟩ ⟨(Nat.le_of_ble_eq_true rfl), (Nat.le_of_ble_eq_true rfl)⟩ (Nat.le_of_ble_eq_true rfl) rfl (kR_ (F := fun st M' => VV X mX4_numberedOn rX4_numberedOn (pI_ post) 30 [(4, .inr (.inr r3)), (0, .inr (.inr (some this))), (1, .inl x1), (2, .inl x2), (3, .inl x3)] st M' 0 0) (fun r8 M9 h => ?_))
      refine vv_ifnull (mi := mX4_numberedOn) (pc := 30) 36 dX4_numberedOn_30 rfl (fun c10 => ?_) (fun aq11 c10 => ?_)
      · replace h := h.1 c10
        refine vv_iinc (mi := mX4_numberedOn) (pc := 36) (x3 + 1) 4 [(3, .inl (x3 + 1)), (4, .inr (.inr r3)), (0, .inr (.inr (some this))), (1, .inl x1), (2, .inl x2)] dX4_numberedOn_36 rfl rfl (Nat.le_of_ble_eq_true rfl) rfl ?_
        refine vv_goto (mi := mX4_numberedOn) (pc := 39) 4 dX4_numberedOn_39 rfl ?_
        refine vv_sub (mi := mX4_numberedOn) [(0, .inr (.inr (some this))), (1, .inl x1), (2, .inl x2), (3, .inl (x3 + 1))] [2, 3, 4, 0] rfl ?_
        exact hb4 _ _ _ _ _ h
      · replace h := h.2 aq11 c10
        refine vv_iinc (mi := mX4_numberedOn) (pc := 33) (x2 + 1) 3 [(2, .inl (x2 + 1)), (4, .inr (.inr r3)), (0, .inr (.inr (some this))), (1, .inl x1), (3, .inl x3)] dX4_numberedOn_33 rfl rfl (Nat.le_of_ble_eq_true rfl) rfl ?_
        refine vv_iinc (mi := mX4_numberedOn) (pc := 36) (x3 + 1) 4 [(3, .inl (x3 + 1)), (2, .inl (x2 + 1)), (4, .inr (.inr r3)), (0, .inr (.inr (some this))), (1, .inl x1)] dX4_numberedOn_36 rfl rfl (Nat.le_of_ble_eq_true rfl) rfl ?_
        refine vv_goto (mi := mX4_numberedOn) (pc := 39) 4 dX4_numberedOn_39 rfl ?_
        refine vv_sub (mi := mX4_numberedOn) [(0, .inr (.inr (some this))), (1, .inl x1), (2, .inl (x2 + 1)), (3, .inl (x3 + 1))] [3, 4, 1, 0] rfl ?_
        exact hb4 _ _ _ _ _ h
theorem loX4_numberedOn_4 {X : Cx_}  {post : Int32 → Mm → Prop}  : ∀ (fu : Nat) {this : Nat} {x1 : Int32} {x2 : Int32} {x3 : Int32} {M : Mm}, DX4_numberedOn_4  post fu this x1 x2 x3 M → VV X mX4_numberedOn rX4_numberedOn (pI_ post) 4 [(0, .inr (.inr (some this))), (1, .inl x1), (2, .inl x2), (3, .inl x3)] [] M 0 0
  | 0, _, _, _, _, _, h => False.elim h
  | fu + 1, _, _, _, _, _, h => bX4_numberedOn_4 (fun this x1 x2 x3 M h => loX4_numberedOn_4  fu h) h
set_option maxHeartbeats 4000000 in
set_option maxRecDepth 100000 in
theorem ctX4_numberedOn {X : Cx_} {this : Nat} {a1 : Int32} {M : Mm} {post : Int32 → Mm → Prop} (h : PX4_numberedOn this a1 M post) : CT X mX4_numberedOn rX4_numberedOn [.inr (.inr (some this)), .inl a1] M (pI_ post) := by
  unfold PX4_numberedOn at h
  refine CT.of (by decide +kernel) (Nat.le_of_ble_eq_true rfl) ?_
  show VV X mX4_numberedOn rX4_numberedOn (pI_ post) 0 [(0, .inr (.inr (some this))), (1, .inl a1)] [] M 0 0
  refine vv_iconst (mi := mX4_numberedOn) (pc := 0) 0 dX4_numberedOn_0 rfl ?_
  refine vv_istore_n (mi := mX4_numberedOn) (pc := 1) [(2, .inl 0), (0, .inr (.inr (some this))), (1, .inl a1)] dX4_numberedOn_1 rfl (Nat.le_of_ble_eq_true rfl) rfl ?_
  refine vv_iconst (mi := mX4_numberedOn) (pc := 2) 0 dX4_numberedOn_2 rfl ?_
  refine vv_istore_n (mi := mX4_numberedOn) (pc := 3) [(3, .inl 0), (2, .inl 0), (0, .inr (.inr (some this))), (1, .inl a1)] dX4_numberedOn_3 rfl (Nat.le_of_ble_eq_true rfl) rfl ?_
  refine vv_sub (mi := mX4_numberedOn) [(0, .inr (.inr (some this))), (1, .inl a1), (2, .inl 0), (3, .inl 0)] [2, 3, 1, 0] rfl ?_
  obtain ⟨fu, h⟩ := h
  exact loX4_numberedOn_4 (X := X)  fu h
set_option maxHeartbeats 4000000 in
set_option maxRecDepth 100000 in
theorem ctX5_init {X : Cx_} {this : Nat} {a1 : Option Nat} {a2 : Int32} {M : Mm} {post : Mm → Prop} (h : PX5_init this a1 a2 M post) : CT X mX5_init rX5_init [.inr (.inr (some this)), .inr (.inr a1), .inl a2] M (pV_ post) := by
  unfold PX5_init at h
  refine CT.of (by decide +kernel) (Nat.le_of_ble_eq_true rfl) ?_
  show VV X mX5_init rX5_init (pV_ post) 0 [(0, .inr (.inr (some this))), (1, .inr (.inr a1)), (2, .inl a2)] [] M 0 0
  refine vv_aload_n (mi := mX5_init) (pc := 0) 0 dX5_init_0 rfl rfl ?_
  refine vv_objInit (mi := mX5_init) (pc := 1) dX5_init_1 oi_X5_1 im_obj co_obj (Nat.le_of_ble_eq_true rfl) (Nat.le_of_ble_eq_true rfl) (Nat.le_of_ble_eq_true rfl) ?_
  refine vv_aload_n (mi := mX5_init) (pc := 4) 0 dX5_init_4 rfl rfl ?_
  refine vv_aload_n (mi := mX5_init) (pc := 5) 1 dX5_init_5 rfl rfl ?_
  obtain ⟨ht1, h⟩ := h
  obtain ⟨M2, eM2⟩ : ∃ z : Mm, z = suR M this 0 a1 := ⟨_, rfl⟩
  replace h := h _ eM2
  refine vv_putR (mi := mX5_init) (pc := 6) 5 0 (.object "DialDesk$Entry") rfl rfl ht1 fq_X5_7 (fun _ => rfl) rfl (Nat.le_of_ble_eq_true rfl) dX5_init_6 eM2 ?_
  refine vv_aload_n (mi := mX5_init) (pc := 9) 0 dX5_init_9 rfl rfl ?_
  refine vv_iload_n (mi := mX5_init) (pc := 10) 2 dX5_init_10 rfl rfl ?_
  obtain ⟨M3, eM3⟩ : ∃ z : Mm, z = suI M2 this 1 a2 := ⟨_, rfl⟩
  replace h := h _ eM3
  refine vv_putI (mi := mX5_init) (pc := 11) 5 1 rfl (tgR_ eM2 ht1) fq_X5_13 (fun _ => rfl) rfl (Nat.le_of_ble_eq_true rfl) dX5_init_11 eM3 ?_
  exact vv_vret (mi := mX5_init) (pc := 14) dX5_init_14 rfl (Nat.le_of_ble_eq_true rfl) (Nat.le_of_ble_eq_true rfl) h
set_option maxHeartbeats 4000000 in
set_option maxRecDepth 100000 in
theorem ctX8_init {X : Cx_} {this : Nat} {M : Mm} {post : Mm → Prop} (h : PX8_init this M post) : CT X mX8_init rX8_init [.inr (.inr (some this))] M (pV_ post) := by
  unfold PX8_init at h
  refine CT.of (by decide +kernel) (Nat.le_of_ble_eq_true rfl) ?_
  show VV X mX8_init rX8_init (pV_ post) 0 [(0, .inr (.inr (some this)))] [] M 0 0
  refine vv_aload_n (mi := mX8_init) (pc := 0) 0 dX8_init_0 rfl rfl ?_
  refine vv_objInit (mi := mX8_init) (pc := 1) dX8_init_1 oi_X8_3 im_obj co_obj (Nat.le_of_ble_eq_true rfl) (Nat.le_of_ble_eq_true rfl) (Nat.le_of_ble_eq_true rfl) ?_
  exact vv_vret (mi := mX8_init) (pc := 4) dX8_init_4 rfl (Nat.le_of_ble_eq_true rfl) (Nat.le_of_ble_eq_true rfl) h
set_option maxHeartbeats 4000000 in
set_option maxRecDepth 100000 in
theorem ctX6_init {X : Cx_} {this : Nat} {M : Mm} {post : Mm → Prop} (h : PX6_init this M post) : CT X mX6_init rX6_init [.inr (.inr (some this))] M (pV_ post) := by
  unfold PX6_init at h
  refine CT.of (by decide +kernel) (Nat.le_of_ble_eq_true rfl) ?_
  show VV X mX6_init rX6_init (pV_ post) 0 [(0, .inr (.inr (some this)))] [] M 0 0
  refine vv_aload_n (mi := mX6_init) (pc := 0) 0 dX6_init_0 rfl rfl ?_
  refine vv_objInit (mi := mX6_init) (pc := 1) dX6_init_1 oi_X6_3 im_obj co_obj (Nat.le_of_ble_eq_true rfl) (Nat.le_of_ble_eq_true rfl) (Nat.le_of_ble_eq_true rfl) ?_
  refine vv_aload_n (mi := mX6_init) (pc := 4) 0 dX6_init_4 rfl rfl ?_
  refine vv_bipush (mi := mX6_init) (pc := 5) 120 dX6_init_5 rfl ?_
  obtain ⟨n1, en1⟩ : ∃ z : Nat, z = ddZ M := ⟨_, rfl⟩
  replace h := h _ en1
  obtain ⟨M2, eM2⟩ : ∃ z : Mm, z = suN M 25 120 := ⟨_, rfl⟩
  replace h := h _ eM2
  refine vv_anew (mi := mX6_init) (pc := 7) 25 120 "DialDesk$Entry" (Nat.le_of_ble_eq_true rfl) rfl cl_X6_9 ao_25 (by decide +kernel) rfl (Nat.le_of_ble_eq_true rfl) (Nat.le_of_ble_eq_true rfl) (Nat.le_of_ble_eq_true rfl) dX6_init_7 en1 eM2 ?_
  obtain ⟨ht3, h⟩ := h
  obtain ⟨M4, eM4⟩ : ∃ z : Mm, z = suR M2 this 0 (some n1) := ⟨_, rfl⟩
  replace h := h _ eM4
  refine vv_putR (mi := mX6_init) (pc := 10) 6 0 (.array (.object "DialDesk$Entry")) rfl rfl ht3 fq_X6_11 (fun _ => rfl) rfl (Nat.le_of_ble_eq_true rfl) dX6_init_10 eM4 ?_
  refine vv_aload_n (mi := mX6_init) (pc := 13) 0 dX6_init_13 rfl rfl ?_
  refine vv_iconst (mi := mX6_init) (pc := 14) 0 dX6_init_14 rfl ?_
  obtain ⟨M5, eM5⟩ : ∃ z : Mm, z = suI M4 this 1 0 := ⟨_, rfl⟩
  replace h := h _ eM5
  refine vv_putI (mi := mX6_init) (pc := 15) 6 1 rfl (tgR_ eM4 ht3) fq_X6_17 (fun q => by cases q) rfl (Nat.le_of_ble_eq_true rfl) dX6_init_15 eM5 ?_
  refine vv_aload_n (mi := mX6_init) (pc := 18) 0 dX6_init_18 rfl rfl ?_
  obtain ⟨n6, en6⟩ : ∃ z : Nat, z = ddZ M5 := ⟨_, rfl⟩
  replace h := h _ en6
  obtain ⟨M7, eM7⟩ : ∃ z : Mm, z = suN M5 9 0 := ⟨_, rfl⟩
  replace h := h _ eM7
  refine vv_new (mi := mX6_init) (pc := 19) 8 (r := (RX8, TX8, 4)) rfl (Nat.le_of_ble_eq_true rfl) rfl nw_8 cl_X6_21 it_8 iz_8 (Nat.le_of_ble_eq_true rfl) (Nat.le_of_ble_eq_true rfl) dX6_init_19 en6 eM7 ?_
  refine vv_dup (mi := mX6_init) (pc := 22) dX6_init_22 rfl ?_
  refine vv_callIN (mi := mX6_init) (pc := 23) (rest := [.inr (.inr (some n6)), .inr (.inr (some this))]) (As := []) (ctX8_init (X := X) h) dX6_init_23 rfl rfl rfl mb_X8_init rfl mn_X6_23 im_X8_init ⟨(Nat.le_of_ble_eq_true rfl), (Nat.le_of_ble_eq_true rfl)⟩ ⟨(Nat.le_of_ble_eq_true rfl), (Nat.le_of_ble_eq_true rfl)⟩ (Nat.le_of_ble_eq_true rfl) rfl (kV_ (F := fun st M' => VV X mX6_init rX6_init (pV_ post) 26 [(0, .inr (.inr (some this)))] st M' 2 124) (fun M9 h => ?_))
  obtain ⟨ht10, h⟩ := h
  obtain ⟨M11, eM11⟩ : ∃ z : Mm, z = suR M9 this 4 (some n6) := ⟨_, rfl⟩
  replace h := h _ eM11
  refine vv_putR (mi := mX6_init) (pc := 26) 6 4 (.object "DialDesk$Reading") rfl rfl ht10 fq_X6_24 (fun _ => rfl) rfl (Nat.le_of_ble_eq_true rfl) dX6_init_26 eM11 ?_
  exact vv_vret (mi := mX6_init) (pc := 29) dX6_init_29 rfl (Nat.le_of_ble_eq_true rfl) (Nat.le_of_ble_eq_true rfl) h
